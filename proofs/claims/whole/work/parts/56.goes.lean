/-! where one can go; threats; what is owed -/
theorem and_bits (p q : Nat → Bool) {n : Nat} (hn : n ≤ 32) : bits p n &&& bits q n = bits (fun i => p i && q i) n := by
  refine bits_of hn (fun i hi => ?_)
  rw [b_and, bits_bt p n hn i hi, bits_bt q n hn i hi]
  cases decide (i < n) <;> simp
theorem go_tk {B : sBd} (hW : WF B) {p s : Nat} (hp : p < bN B) (hs : s < 25) (hg : goB B p (bP B p) s = true) : decide (who B s < bN B) = foeB B p s := by
  obtain ⟨w1, w2⟩ := ownfoe hW hp hs
  have hne : bP B p ≠ s := fun z => by rw [z, goB_self hW hp hs] at hg; cases hg
  by_cases c : who B s < bN B
  · have hwp : who B s ≠ p := fun z => hne (by rw [← z]; exact who_at c)
    obtain ⟨a, b⟩ := w1 c hwp
    rw [decide_eq_true c, b]
    by_cases e : bS B (who B s) = bS B p
    · rw [goB_own (by rw [b]; simp [e]) (by rw [a]; simp [e])] at hg
      cases hg
    · simp [e]
  · rw [decide_eq_false c, (w2 (fun z => absurd z c)).2]
def tkB (B : sBd) (p s : Nat) : Bool := goB B p (bP B p) s && foeB B p s
def goBits (B : sBd) (p : Nat) : Int32 := bits (goB B p (bP B p)) 25
section
variable {h : rb_H} {o a ru : Nat} {B : sBd} {ρ : sRu}
theorem M_goesY (hR : RM h a B) (hW : WF B) {p : Nat} (hp : p < bN B) (ho : bP B p ≠ 25) : fM_goesOf a (nI p) h = some (goBits B p) := by
  rw [M_goesOf hR hW hp]
  congr 1
  refine bits_congr (fun i _ => ?_)
  simp [ho]
theorem M_taken (hR : RM h 50 B) (hW : WF B) {p : Nat} (hp : p < bN B) : ∀ k, k < 25 → fM_has (goBits B p) (nI k) = goB B p (bP B p) k ∧ fM_on 50 (nI k) h = some (if who B k < bN B then nI (who B k) else -1) ∧ (goB B p (bP B p) k = true → ((if who B k < bN B then nI (who B k) else (-1 : Int32)) = -1 ↔ foeB B p k = false)) := by
  intro k hk
  have h8 := hW.1
  refine ⟨?_, M_on hR hW (by omega), fun hg => ?_⟩
  · unfold goBits
    rw [has_bt _ (by omega), bits_bt _ 25 (by omega) k (by omega)]
    simp [hk]
  · have e := go_tk hW hp hk hg
    by_cases c : who B k < bN B
    · rw [if_pos c]
      rw [decide_eq_true c] at e
      rw [← e]
      constructor
      · intro z
        have := nI_pos' (n := who B k) (by omega)
        rw [z] at this
        exact absurd this (by decide)
      · intro z; cases z
    · rw [if_neg c]
      rw [decide_eq_false c] at e
      rw [← e]
      simp
theorem M_tkloop (hR : RM h 50 B) (hW : WF B) {p : Nat} (hp : p < bN B) : rb_iter rb_fuel (fun s => fM_goes_44b (goBits B p) s.1 s.2 h) ((0 : Int32), (0 : Int32)) = some (nI (fb_ct (tkB B p) 25)) := by
  refine rb_run' (fun k => (nI (fb_ct (tkB B p) k), nI k)) 25 rfl (by omega) (fun k hk => ?_) ?_
  · show fM_goes_44b (goBits B p) _ (nI k) h = _
    obtain ⟨t1, t2, t3⟩ := M_taken hR hW hp k hk
    unfold fM_goes_44b fM_goes_79l44 fM_goes_80l44
    rw [if_neg (show ¬ (25 : Int32) ≤ nI k from nI_ge (b := 25) hk (by omega)), t1, t2]
    simp only [Option.bind_some, nI_1, i0, fb_ct_succ]
    cases hg : goB B p (bP B p) k
    · rw [if_neg (by decide)]
      unfold tkB; rw [hg]; rfl
    · rw [if_pos rfl]
      have t3 := t3 hg
      cases hf : foeB B p k
      · rw [if_pos (t3.mpr hf)]
        unfold tkB; rw [hg, hf]; rfl
      · rw [if_neg (fun z => by rw [t3.mp z] at hf; cases hf)]
        unfold tkB; rw [hg, hf]
        simp [nI_1]
  · rfl
end
theorem O_goes (x : Int32) : rb_op (fB_goes x) (fM_goes x) := by
  refine rb_op_of (fun σ hσ => ?_)
  have hW := hσ.1
  have h8 := hW.1
  rcases sq_or x (bN (zB σ)) with ⟨p, hp, rfl⟩ | hx
  · by_cases ho : bP (zB σ) p = 25
    · refine at_refuse hσ (-2) (fun h hI => ?_) (fun h hI => ?_)
      · unfold fB_goes fB_goes_0
        rw [S_has_y hI.1 hW hp, if_pos rfl, S_stands_y hI.1 hW hp]
        simp [ho]
      · unfold fM_goes fM_goes_0
        rw [M_isPiece_y hI.1 hW hp, if_pos rfl, M_isOut hI.1 hW hp]
        simp [ho]
    · have hw := hW.2.2.1 p hp
      refine at_row hσ (goBits (zB σ) p) [(nI (fb_ct (goB (zB σ) p (bP (zB σ) p)) 25)).toInt64, (nI (fb_ct (tkB (zB σ) p) 25)).toInt64] (by simp) (fun h hI => ?_) (fun h0 h e hI => ?_)
      · obtain ⟨h1, a1, a2, a3⟩ := C_tell1 (nI (fb_ct (goB (zB σ) p (bP (zB σ) p)) 25)).toInt64 (nI (fb_ct (tkB (zB σ) p) 25)).toInt64 h
        have e1 : (1 : Int32) - nI (bS (zB σ) p) = nI (1 - bS (zB σ) p) := nI_sub1 hw.2.1
        have e2 := and_bits (goB (zB σ) p (bP (zB σ) p)) (foeB (zB σ) p) (n := 25) (by omega)
        unfold fB_goes fB_goes_0
        rw [S_has_y hI.1 hW hp, if_pos rfl, S_stands_y hI.1 hW hp]
        simp only [Option.bind_some, decide_eq_true_eq, if_pos ho, S_reach_y hI.1 hW hp ho, if_neg (oob_n (show p < 8 by omega) (by omega)), cl_n (show p < 2 ^ 31 by omega), (RS94 hI.1 hp).2.1, e1, S_squaresOf hI.1 hW (show 1 - bS (zB σ) p < 100 by omega) (show p < 100 by omega), rb_lt]
        refine ⟨h1, ?_, a2, AgS (by decide +kernel) a3⟩
        have e3 : bits (goB (zB σ) p (bP (zB σ) p)) 25 &&& bits (occ (zB σ) fun i => decide (i ≠ p) && decide (bS (zB σ) i = 1 - bS (zB σ) p)) 25 = bits (tkB (zB σ) p) 25 := e2
        rw [e3, bc_bits _ (by omega), bc_bits _ (by omega), a1]
        rfl
      · obtain ⟨h1, a1, a2, a3⟩ := M_tellA (nI (fb_ct (goB (zB σ) p (bP (zB σ) p)) 25)).toInt64 h
        obtain ⟨h2, b1, b2, b3⟩ := M_tell a2 (by simp) (nI (fb_ct (tkB (zB σ) p) 25)).toInt64
        have e4 : fJI_bitCount (goBits (zB σ) p) = nI (fb_ct (goB (zB σ) p (bP (zB σ) p)) 25) := bc_bits _ (by omega)
        unfold fM_goes fM_goes_0
        rw [← e, M_isPiece_y hI.1 hW hp, if_pos rfl, M_isOut hI.1 hW hp]
        simp only [Option.bind_some, decide_eq_true_eq, if_neg ho, M_goesY hI.1 hW hp ho, M_tkloop hI.1 hW hp, rb_lt, e4, a1, b1]
        exact ⟨h2, rfl, b2, AgS (by decide +kernel) (Ag_trans a3 b3)⟩
  · refine at_refuse hσ (-1) (fun h hI => ?_) (fun h hI => ?_)
    · unfold fB_goes fB_goes_0
      rw [S_has_n hI.1 hW hx, if_neg (by decide)]
    · unfold fM_goes fM_goes_0
      rw [M_isPiece_n hI.1 hW hx, if_neg (by decide)]
/-- whether a piece threatens another -/
def thrB (B : sBd) (p k : Nat) : Bool := decide (bS B k ≠ bS B p) && (decide (bP B k ≠ 25) && goB B k (bP B k) (bP B p))
theorem C_reachH {h : rb_H} {o : Nat} {B : sBd} (hR : RS h o B) (hW : WF B) {k s : Nat} (hk : k < bN B) (hs : s < 25) : ∃ u, fS_reach o (nI k) h = some u ∧ fB_holds u (nI s) = (decide (bP B k ≠ 25) && goB B k (bP B k) s) := by
  by_cases c : bP B k = 25
  · refine ⟨0, S_reach_o hR hW hk c, ?_⟩
    rw [holds_bt _ (by omega), b_0]
    simp [c]
  · refine ⟨_, S_reach_y hR hW hk c, ?_⟩
    rw [holds_bt _ (by omega), bits_bt _ 25 (by omega) s (by omega)]
    simp [hs, c]
theorem O_threats (x : Int32) : rb_op (fB_threats x) (fM_threats x) := by
  refine rb_op_of (fun σ hσ => ?_)
  have hW := hσ.1
  have h8 := hW.1
  rcases sq_or x (bN (zB σ)) with ⟨p, hp, rfl⟩ | hx
  · by_cases ho : bP (zB σ) p = 25
    · refine at_refuse hσ (-2) (fun h hI => ?_) (fun h hI => ?_)
      · unfold fB_threats fB_threats_0
        rw [S_has_y hI.1 hW hp, if_pos rfl, S_stands_y hI.1 hW hp]
        simp [ho]
      · unfold fM_threats fM_threats_0
        rw [M_isPiece_y hI.1 hW hp, if_pos rfl, M_isOut hI.1 hW hp]
        simp [ho]
    · have hw := hW.2.2.1 p hp
      have hs : bP (zB σ) p < 25 := by omega
      refine at_row hσ (bits (thrB (zB σ) p) (bN (zB σ))) [(nI (fb_ct (thrB (zB σ) p) (bN (zB σ)))).toInt64] (by simp) (fun h hI => ?_) (fun h0 h e hI => ?_)
      · have loop : rb_iter rb_fuel (fun s => fB_threats_31b (nI p) s.1 s.2 h) ((0 : Int32), (0 : Int32)) = some (bits (thrB (zB σ) p) (bN (zB σ))) := by
          refine rb_run' (fun k => (bits (thrB (zB σ) p) k, nI k)) (bN (zB σ)) rfl (by omega) (fun k hk => ?_) ?_
          · show fB_threats_31b (nI p) _ (nI k) h = _
            have hwk := hW.2.2.1 k hk
            obtain ⟨u, u1, u2⟩ := C_reachH hI.1 hW hk hs
            have es : nI (bS (zB σ) k) = nI (bS (zB σ) p) ↔ bS (zB σ) k = bS (zB σ) p := nI_eq (by omega) (by omega)
            unfold fB_threats_31b fB_threats_92l31
            simp only [hI.1.1, if_neg (nI_ge hk (show bN (zB σ) < 2 ^ 31 by omega)), if_neg (oob_n (show k < 8 by omega) (by omega)), if_neg (oob_n (show p < 8 by omega) (by omega)), cl_n (show k < 2 ^ 31 by omega), cl_n (show p < 2 ^ 31 by omega), (RS94 hI.1 hk).2.1, (RS94 hI.1 hp).2.1, (RS94 hI.1 hp).2.2.1, es, u1, Option.bind_some, u2, nI_1]
            rw [bits_succ]
            unfold thrB
            by_cases c : bS (zB σ) k = bS (zB σ) p
            · simp [c]
            · rw [if_neg c]
              cases hg : (decide (bP (zB σ) k ≠ 25) && goB (zB σ) k (bP (zB σ) k) (bP (zB σ) p))
              · simp
              · simp [c]
          · show fB_threats_31b (nI p) _ (nI (bN (zB σ))) h = _
            unfold fB_threats_31b
            rw [hI.1.1, if_pos (nI_le (Nat.le_refl _) (by omega))]
        obtain ⟨h1, a1, a2, a3⟩ := C_tell2 (nI (fb_ct (thrB (zB σ) p) (bN (zB σ)))).toInt64 h
        unfold fB_threats fB_threats_0
        rw [S_has_y hI.1 hW hp, if_pos rfl, S_stands_y hI.1 hW hp]
        simp only [Option.bind_some, decide_eq_true_eq, if_pos ho, loop, rb_lt, bc_bits _ (show bN (zB σ) ≤ 32 by omega), a1]
        exact ⟨h1, rfl, a2, AgS (by decide +kernel) a3⟩
      · have loop : rb_iter rb_fuel (fun s => fM_threats_33b (nI p) s.1 s.2 h) ((0 : Int32), (0 : Int32)) = some (bits (thrB (zB σ) p) (bN (zB σ))) := by
          refine rb_run' (fun k => (bits (thrB (zB σ) p) k, nI k)) (bN (zB σ)) rfl (by omega) (fun k hk => ?_) ?_
          · show fM_threats_33b (nI p) _ (nI k) h = _
            have hwk := hW.2.2.1 k hk
            have qk := hI.1.2.2.2.2 k hk
            have qp := hI.1.2.2.2.2 p hp
            have es : nI (bS (zB σ) k) = nI (bS (zB σ) p) ↔ bS (zB σ) k = bS (zB σ) p := nI_eq (by omega) (by omega)
            unfold fM_threats_33b fM_threats_84l33 fM_threats_85l33
            simp only [hI.1.1, if_neg (nI_ge hk (show bN (zB σ) < 2 ^ 31 by omega)), if_neg (oob_n (show k < 8 by omega) (by omega)), if_neg (oob_n (show p < 8 by omega) (by omega)), cl_n (show k < 2 ^ 31 by omega), cl_n (show p < 2 ^ 31 by omega), qk.2.1, qp.2.1, es, nI8, if_neg (oob_n (show 8 + p < 27 by omega) (by omega)), cl_n (show 8 + p < 2 ^ 31 by omega), qp.2.2.1, M_canGoNow hI.1 hW hk hs, Option.bind_some, nI_1]
            rw [bits_succ]
            unfold thrB
            by_cases c : bS (zB σ) k = bS (zB σ) p
            · simp [c]
            · rw [if_neg c]
              cases hg : (decide (bP (zB σ) k ≠ 25) && goB (zB σ) k (bP (zB σ) k) (bP (zB σ) p))
              · simp
              · simp [c]
          · show fM_threats_33b (nI p) _ (nI (bN (zB σ))) h = _
            unfold fM_threats_33b
            rw [hI.1.1, if_pos (nI_le (Nat.le_refl _) (by omega))]
        obtain ⟨h1, a1, a2, a3⟩ := M_tellA (nI (fb_ct (thrB (zB σ) p) (bN (zB σ)))).toInt64 h
        unfold fM_threats fM_threats_0
        rw [← e, M_isPiece_y hI.1 hW hp, if_pos rfl, M_isOut hI.1 hW hp]
        simp only [Option.bind_some, decide_eq_true_eq, if_neg ho, loop, rb_lt, bc_bits _ (show bN (zB σ) ≤ 32 by omega), a1]
        exact ⟨h1, rfl, a2, AgS (by decide +kernel) a3⟩
  · refine at_refuse hσ (-1) (fun h hI => ?_) (fun h hI => ?_)
    · unfold fB_threats fB_threats_0
      rw [S_has_n hI.1 hW hx, if_neg (by decide)]
    · unfold fM_threats fM_threats_0
      rw [M_isPiece_n hI.1 hW hx, if_neg (by decide)]
theorem S_due {h : rb_H} {o ru : Nat} {B : sBd} {ρ : sRu} (hR : RS h o B) (hW : WF B) (hU : RuC h ru ρ) (hd : ru ≠ 49) {k : Nat} (hk : k < bN B) : ∃ h', fS_due o ru (nI k) h = some (nI (dueN ρ B k), h') ∧ Ag [ru + 2, ru + 5] h h' := by
  have h8 := hW.1
  have hw := hW.2.2.1 k hk
  unfold fS_due fS_due_0
  rw [S_stands_y hR hW hk]
  simp only [Option.bind_some, decide_eq_true_eq]
  by_cases c : bP B k = 25
  · rw [if_neg (fun z => z c)]
    refine ⟨h, ?_, Ag_refl _ _⟩
    unfold dueN
    rw [if_pos c]; rfl
  · rw [if_pos c, if_neg (oob_n (show k < 8 by omega) (by omega)), cl_n (by omega), (hR.2.2.2.2 k hk).2.2.1, hR.2.2.1]
    obtain ⟨h', r1, r2⟩ := S_rentAt hR hW hU hk (show bP B k < 25 by omega) hd (bQ B)
    rw [r1]
    refine ⟨h', ?_, r2⟩
    unfold dueN
    rw [if_neg c]; rfl
def owS (ρ : sRu) (B : sBd) (t n : Nat) : Nat := fb_sm (fun i => if bS B i = t then dueN ρ B i else 0) n
def poorB (ρ : sRu) (B : sBd) (t i : Nat) : Bool := decide (bS B i = t) && goesOutB ρ B i
theorem O_owes (x : Int32) : rb_op (fB_owes x) (fM_owes x) := by
  refine rb_op_of (fun σ hσ => ?_)
  have hW := hσ.1
  have h8 := hW.1
  rcases rg_or x (n := 1) (by omega) with ⟨t, ht, rfl⟩ | hx
  · have hside : fB_isSide (nI t) = true := by
      rcases (show t = 0 ∨ t = 1 by omega) with rfl | rfl <;> decide
    refine at_row hσ (nI (owS (zR σ) (zB σ) t (bN (zB σ)))) [(nI (sumU (zB σ) (fun i => decide (bS (zB σ) i = t)) (bN (zB σ)))).toInt64, (bits (poorB (zR σ) (zB σ) t) (bN (zB σ))).toInt64] (by simp) (fun h hI => ?_) (fun h0 h e hI => ?_)
    · have loop : ∃ x, rb_iter rb_fuel (fun s => fB_owes_16b (nI t) s.1 s.2.1 s.2.2.1 s.2.2.2) ((0 : Int32), (0 : Int32), (0 : Int32), h) = some x ∧ (x.1 = nI (owS (zR σ) (zB σ) t (bN (zB σ))) ∧ x.2.1 = bits (poorB (zR σ) (zB σ) t) (bN (zB σ)) ∧ Ag [7, 10] h x.2.2) := by
        refine rb_runP (fun k s => s.1 = nI (owS (zR σ) (zB σ) t k) ∧ s.2.1 = bits (poorB (zR σ) (zB σ) t) k ∧ s.2.2.1 = nI k ∧ Ag [7, 10] h s.2.2.2) _ (bN (zB σ)) ⟨rfl, rfl, rfl, Ag_refl _ _⟩ (by omega) ?_ ?_
        · rintro k ⟨v, w, y, h1⟩ hk ⟨e1, e2, e3, hA⟩
          dsimp only at e1 e2 e3 hA ⊢
          subst e1
          subst e2
          subst e3
          have R1 := RSn_ag hI.1 hA (by decide)
          have U1 := RuCn_ag hI.2.1 hA (by decide)
          have hwk := hW.2.2.1 k hk
          obtain ⟨h2, d1, d2⟩ := S_due R1 hW U1 (by decide) hk
          have hdl := dueN_le (zR σ) (zB σ) k
          have es : nI (bS (zB σ) k) = nI t ↔ bS (zB σ) k = t := nI_eq (by omega) (by omega)
          have el : nI (dueN (zR σ) (zB σ) k) ≤ nI (bU (zB σ) k) ↔ dueN (zR σ) (zB σ) k ≤ bU (zB σ) k := nI_leI (by omega) (by omega)
          have hu : rb_hI h2 98 k = nI (bU (zB σ) k) := (AgI d2 (by decide) k).trans (RS94 R1 hk).2.2.2
          unfold fB_owes_16b fB_owes_86l16 fB_owes_88l16
          simp only [R1.1, if_neg (nI_ge hk (show bN (zB σ) < 2 ^ 31 by omega)), if_neg (oob_n (show k < 8 by omega) (by omega)), cl_n (show k < 2 ^ 31 by omega), (RS94 R1 hk).2.1, es, d1, Option.bind_some, hu, el, nI_1, nI_add]
          by_cases c : bS (zB σ) k = t
          · rw [if_pos c]
            have so : owS (zR σ) (zB σ) t (k + 1) = owS (zR σ) (zB σ) t k + dueN (zR σ) (zB σ) k := by
              show _ + (if bS (zB σ) k = t then dueN (zR σ) (zB σ) k else 0) = _
              rw [if_pos c]; rfl
            by_cases c2 : dueN (zR σ) (zB σ) k ≤ bU (zB σ) k
            · rw [if_pos c2]
              have g : poorB (zR σ) (zB σ) t k = false := by unfold poorB goesOutB; simp; omega
              refine ⟨_, rfl, by rw [so], ?_, rfl, Ag_trans hA d2⟩
              rw [bits_succ, g]; rfl
            · rw [if_neg c2]
              have g : poorB (zR σ) (zB σ) t k = true := by unfold poorB goesOutB; simp; omega
              refine ⟨_, rfl, by rw [so], ?_, rfl, Ag_trans hA d2⟩
              rw [bits_succ, g]; rfl
          · rw [if_neg c]
            have so : owS (zR σ) (zB σ) t (k + 1) = owS (zR σ) (zB σ) t k := by
              show _ + (if bS (zB σ) k = t then dueN (zR σ) (zB σ) k else 0) = _
              rw [if_neg c]; rfl
            have g : poorB (zR σ) (zB σ) t k = false := by unfold poorB; simp [c]
            refine ⟨_, rfl, by rw [so], ?_, rfl, hA⟩
            rw [bits_succ, g]
            exact (Int32.or_zero).symm
        · rintro ⟨v, w, y, h1⟩ ⟨e1, e2, e3, hA⟩
          dsimp only at e1 e2 e3 hA ⊢
          subst e3
          have R1 := RSn_ag hI.1 hA (by decide)
          unfold fB_owes_16b
          rw [R1.1, if_pos (nI_le (Nat.le_refl _) (by omega))]
          exact ⟨_, rfl, e1, e2, hA⟩
      obtain ⟨x, m1, m2, m3, m4⟩ := loop
      obtain ⟨h1, a1, a2, a3⟩ := C_tell1 (nI (sumU (zB σ) (fun i => decide (bS (zB σ) i = t)) (bN (zB σ)))).toInt64 (bits (poorB (zR σ) (zB σ) t) (bN (zB σ))).toInt64 x.2.2
      unfold fB_owes fB_owes_0
      rw [hside, if_pos rfl, m1]
      simp only [Option.bind_some, S_pursesOf (RSn_ag hI.1 m4 (by decide)) hW (show t < 100 by omega), m2, m3, a1]
      exact ⟨h1, rfl, a2, Ag_trans (AgS (by decide +kernel) m4) (AgS (by decide +kernel) a3)⟩
    · have loop : ∃ x, rb_iter rb_fuel (fun s => fM_owes_23b (nI t) s.1 s.2.1 s.2.2.1 s.2.2.2) ((0 : Int32), (0 : Int32), (0 : Int32), h) = some x ∧ (x.1 = nI (owS (zR σ) (zB σ) t (bN (zB σ))) ∧ x.2.1 = bits (poorB (zR σ) (zB σ) t) (bN (zB σ)) ∧ Ag mR h x.2.2) := by
        refine rb_runP (fun k s => s.1 = nI (owS (zR σ) (zB σ) t k) ∧ s.2.1 = bits (poorB (zR σ) (zB σ) t) k ∧ s.2.2.1 = nI k ∧ Ag mR h s.2.2.2) _ (bN (zB σ)) ⟨rfl, rfl, rfl, Ag_refl _ _⟩ (by omega) ?_ ?_
        · rintro k ⟨v, w, y, h1⟩ hk ⟨e1, e2, e3, hA⟩
          dsimp only at e1 e2 e3 hA ⊢
          subst e1
          subst e2
          subst e3
          have R1 := RMn_ag hI.1 hA (by decide)
          have U1 := RuMn_ag hI.2.1 hA (by decide)
          have hwk := hW.2.2.1 k hk
          have q := R1.2.2.2.2 k hk
          have es : nI (bS (zB σ) k) = nI t ↔ bS (zB σ) k = t := nI_eq (by omega) (by omega)
          unfold fM_owes_23b fM_owes_109l23 fM_owes_111l23
          simp only [R1.1, if_neg (nI_ge hk (show bN (zB σ) < 2 ^ 31 by omega)), if_neg (oob_n (show k < 8 by omega) (by omega)), cl_n (show k < 2 ^ 31 by omega), q.2.1, es, M_isOut R1 hW hk, Option.bind_some, decide_eq_true_eq, nI8, nI16, if_neg (oob_n (show 8 + k < 27 by omega) (by omega)), if_neg (oob_n (show 16 + k < 27 by omega) (by omega)), cl_n (show 8 + k < 2 ^ 31 by omega), cl_n (show 16 + k < 2 ^ 31 by omega), q.2.2.1, nI_1]
          by_cases c : bS (zB σ) k = t
          · rw [if_pos c]
            have so : owS (zR σ) (zB σ) t (k + 1) = owS (zR σ) (zB σ) t k + dueN (zR σ) (zB σ) k := by
              show _ + (if bS (zB σ) k = t then dueN (zR σ) (zB σ) k else 0) = _
              rw [if_pos c]; rfl
            by_cases c1 : bP (zB σ) k = 25
            · rw [if_pos c1]
              have g : poorB (zR σ) (zB σ) t k = false := by unfold poorB; rw [goesOut_out c1]; simp
              have z : dueN (zR σ) (zB σ) k = 0 := by unfold dueN; rw [if_pos c1]
              refine ⟨_, rfl, by rw [so, z]; rfl, ?_, rfl, hA⟩
              rw [bits_succ, g]
              exact (Int32.or_zero).symm
            · rw [if_neg c1]
              obtain ⟨h2, d1, d2⟩ := M_rentOf R1 hW U1 hk (show bP (zB σ) k < 25 by omega) (by decide) (by decide) (by decide)
              have ed : rentN (zR σ) (zB σ) k (bP (zB σ) k) (bQ (zB σ)) = dueN (zR σ) (zB σ) k := by unfold dueN; rw [if_neg c1]
              rw [ed] at d1
              have hdl := dueN_le (zR σ) (zB σ) k
              have el : nI (dueN (zR σ) (zB σ) k) ≤ nI (bU (zB σ) k) ↔ dueN (zR σ) (zB σ) k ≤ bU (zB σ) k := nI_leI (by omega) (by omega)
              have hu : rb_hI h2 50 (16 + k) = nI (bU (zB σ) k) := (AgI d2 (by decide) _).trans q.2.2.2
              simp only [d1, Option.bind_some, hu, el, nI_add]
              by_cases c2 : dueN (zR σ) (zB σ) k ≤ bU (zB σ) k
              · rw [if_pos c2]
                have g : poorB (zR σ) (zB σ) t k = false := by unfold poorB goesOutB; simp; omega
                refine ⟨_, rfl, by rw [so], ?_, rfl, Ag_trans hA (Ag_mono (fun x hx => mR_sub hx) d2)⟩
                rw [bits_succ, g]; rfl
              · rw [if_neg c2]
                have g : poorB (zR σ) (zB σ) t k = true := by unfold poorB goesOutB; simp; omega
                refine ⟨_, rfl, by rw [so], ?_, rfl, Ag_trans hA (Ag_mono (fun x hx => mR_sub hx) d2)⟩
                rw [bits_succ, g]; rfl
          · rw [if_neg c]
            have so : owS (zR σ) (zB σ) t (k + 1) = owS (zR σ) (zB σ) t k := by
              show _ + (if bS (zB σ) k = t then dueN (zR σ) (zB σ) k else 0) = _
              rw [if_neg c]; rfl
            have g : poorB (zR σ) (zB σ) t k = false := by unfold poorB; simp [c]
            refine ⟨_, rfl, by rw [so], ?_, rfl, hA⟩
            rw [bits_succ, g]
            exact (Int32.or_zero).symm
        · rintro ⟨v, w, y, h1⟩ ⟨e1, e2, e3, hA⟩
          dsimp only at e1 e2 e3 hA ⊢
          subst e3
          have R1 := RMn_ag hI.1 hA (by decide)
          unfold fM_owes_23b
          rw [R1.1, if_pos (nI_le (Nat.le_refl _) (by omega))]
          exact ⟨_, rfl, e1, e2, hA⟩
      obtain ⟨x, m1, m2, m3, m4⟩ := loop
      obtain ⟨h1, a1, a2, a3⟩ := M_tellA (nI (sumU (zB σ) (fun i => decide (bS (zB σ) i = t)) (bN (zB σ)))).toInt64 x.2.2
      obtain ⟨h2, b1, b2, b3⟩ := M_tell a2 (by simp) (bits (poorB (zR σ) (zB σ) t) (bN (zB σ))).toInt64
      unfold fM_owes fM_owes_0
      rw [M_in_y (n := 1) (M := 1) ht (by omega) rfl, if_pos rfl, ← e, m1]
      simp only [Option.bind_some, M_purses1 (RMn_ag (RMn_ag hI.1 m4 (by decide)) (h' := rb_sF x.2.2 49 6 0) (L := [1006]) (Ag_sF (by decide) (Ag_refl _ _)) (by decide)) hW (show t < 2 by omega), a1, m2, m3, b1]
      exact ⟨h2, rfl, b2, Ag_trans (AgS (by decide +kernel) m4) (AgS (by decide +kernel) (Ag_trans a3 b3))⟩
  · refine at_refuse hσ (-1) (fun h hI => ?_) (fun h hI => ?_)
    · have hs : fB_isSide x = false := by
        unfold fB_isSide fB_isSide_0
        rw [if_neg, if_neg]
        · rintro rfl; exact absurd hx (by decide)
        · rintro rfl; exact absurd hx (by decide)
      unfold fB_owes fB_owes_0
      rw [hs]; rfl
    · unfold fM_owes fM_owes_0
      rw [M_in_no (M := 1) hx, if_neg (by decide)]
