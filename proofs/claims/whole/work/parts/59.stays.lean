/-! the cheapest square; squares on which one could stay -/
/-- nobody else stands there -/
def frB (B : sBd) (p s : Nat) : Bool := !occ B (fun i => decide (i ≠ p)) s
theorem fr_who {B : sBd} (hW : WF B) {p s : Nat} (hs : s < 25) : frB B p s = (decide (¬ who B s < bN B) || decide (who B s = p)) := by
  unfold frB
  by_cases c : who B s < bN B
  · have h9 := who_at c
    by_cases e : who B s = p
    · have : occ B (fun i => decide (i ≠ p)) s = false := by
        cases hc : occ B (fun i => decide (i ≠ p)) s with
        | false => rfl
        | true =>
          obtain ⟨i, h1, h2, h4⟩ := occ_iff.mp hc
          have := who_eq hW h1 hs h4
          simp at h2
          omega
      rw [this]; simp [c, e]
    · have : occ B (fun i => decide (i ≠ p)) s = true := occ_iff.mpr ⟨who B s, c, by simpa using e, h9⟩
      rw [this]; simp [c, e]
  · have : occ B (fun i => decide (i ≠ p)) s = false := by
      cases hc : occ B (fun i => decide (i ≠ p)) s with
      | false => rfl
      | true =>
        obtain ⟨i, h1, h2, h4⟩ := occ_iff.mp hc
        exact absurd h4 (who_no c h1)
    rw [this]; simp [c]
section
variable {h : rb_H} {B : sBd} {ρ : sRu}
theorem M_isFree (hR : RM h 50 B) (hW : WF B) {p s : Nat} (hp : p < bN B) (hs : s < 25) : fM_isFree (nI p) (nI s) h = some (frB B p s) := by
  have h8 := hW.1
  unfold fM_isFree fM_isFree_0 fM_isFree_26
  rw [M_on hR hW (show s < 100 by omega), fr_who hW hs]
  simp only [Option.bind_some]
  by_cases c : who B s < bN B
  · have n1 : ¬ nI (who B s) = (-1 : Int32) := fun z => by
      have := nI_pos' (n := who B s) (by omega)
      rw [z] at this
      exact absurd this (by decide)
    have e : nI (who B s) = nI p ↔ who B s = p := nI_eq (by omega) (by omega)
    simp only [if_pos c, if_neg n1, e]
    by_cases e2 : who B s = p <;> simp [c, e2]
  · simp [c]
theorem M_rentBehind (hR : RM h 50 B) (hW : WF B) (hU : RuM h ρ) {p s : Nat} (hp : p < bN B) (hs : s < 25) (v : Int32) : ∃ h', fM_rentBehind (nI p) (nI s) v h = some (nI (rentN ρ B p s (bQ B + v)), h') ∧ Ag (60 :: mR) h h' := by
  obtain ⟨h1, a1, a2, a3⟩ := M_layB (a := 50) (b := 60) hR hW (by decide) (by decide) (by rfl)
  have A1 : Ag (60 :: mR) h (rb_sI h1 60 25 (bQ B + v)) := Ag_sI (by decide) (AgS (by decide) a3)
  have R1 : RM (rb_sI h1 60 25 (bQ B + v)) 60 (bK B, bS B, bP B, bU B, bN B, bT B, bQ B + v, bM B) := by
    have h8 := hW.1
    refine RM_set a2 rfl rfl (by decide) (Ag_sI (by simp) (Ag_refl _ _)) (by decide) ?_ ?_ ?_ (fun i hi => ?_)
    · rw [hI_sI, if_neg (by decide)]; exact a2.2.1
    · rw [hI_sI, if_pos ⟨rfl, rfl⟩]; rfl
    · rw [hI_sI, if_neg (by decide)]; exact a2.2.2.2.1
    · have q := a2.2.2.2.2 i hi
      rw [hI_sI, hI_sI, hI_sI, if_neg (by omega), if_neg (by omega), if_neg (by omega)]
      exact ⟨q.1, q.2.2.1, q.2.2.2⟩
  obtain ⟨h2, b1, b2⟩ := M_rentOf R1 (show WF _ from hW) (RuMn_ag hU A1 (by decide)) (show p < bN _ from hp) hs (by decide) (by decide) (by decide)
  unfold fM_rentBehind fM_rentBehind_0
  rw [a1]
  simp only [Option.bind_some, a2.2.2.1, b1]
  exact ⟨h2, rfl, Ag_trans A1 (AgS (by decide) b2)⟩
end
/-- what stays() adds up -/
def stS (ρ : sRu) (B : sBd) (p s n : Nat) : Nat := fb_sm (fun d => rentN ρ B p s (bQ B + nI d)) n
theorem stS_le (ρ : sRu) (B : sBd) (p s n : Nat) : stS ρ B p s n ≤ n * 20 := fb_sm_bound (fun _ _ => rentN_le _ _ _ _ _)
theorem stS_mono (ρ : sRu) (B : sBd) (p s : Nat) {a b : Nat} (h : a ≤ b) : stS ρ B p s a ≤ stS ρ B p s b := by
  have := fb_sm_mono (fun d => rentN ρ B p s (bQ B + nI d)) a (b - a)
  rwa [Nat.add_sub_cancel' h] at this
theorem C_rentsAt {h : rb_H} {B : sBd} {ρ : sRu} (hR : RS h 94 B) (hW : WF B) (hU : RuC h 5 ρ) {p s n : Nat} (hp : p < bN B) (hs : s < 25) (hn : n ≤ 20) : ∃ h', fB_rentsAt (nI p) (nI s) (nI n) h = some (nI (stS ρ B p s n), h') ∧ Ag [7, 10] h h' := by
  have main : ∃ x, rb_iter rb_fuel (fun z => fB_rentsAt_6b (nI p) (nI s) (nI n) z.1 z.2.1 z.2.2) ((0 : Int32), (0 : Int32), h) = some x ∧ (x.1 = nI (stS ρ B p s n) ∧ Ag [7, 10] h x.2) := by
    refine rb_runP (fun k z => z.1 = nI (stS ρ B p s k) ∧ z.2.1 = nI k ∧ Ag [7, 10] h z.2.2) _ n ⟨rfl, rfl, Ag_refl _ _⟩ (by omega) ?_ ?_
    · rintro k ⟨v, w, h1⟩ hk ⟨e1, e2, hA⟩
      dsimp only at e1 e2 hA ⊢
      subst e1
      subst e2
      have R1 := RSn_ag hR hA (by decide)
      obtain ⟨h2, d1, d2⟩ := S_rentAt R1 hW (RuCn_ag hU hA (by decide)) hp hs (by decide) (bQ B + nI k)
      unfold fB_rentsAt_6b
      rw [if_neg (nI_ge hk (show n < 2 ^ 31 by omega)), R1.2.2.1, d1]
      simp only [Option.bind_some, nI_1, nI_add]
      exact ⟨_, rfl, rfl, rfl, Ag_trans hA d2⟩
    · rintro ⟨v, w, h1⟩ ⟨e1, e2, hA⟩
      dsimp only at e1 e2 hA ⊢
      subst e2
      unfold fB_rentsAt_6b
      rw [if_pos (nI_le (Nat.le_refl _) (by omega))]
      exact ⟨_, rfl, e1, hA⟩
  obtain ⟨x, m1, m2, m3⟩ := main
  unfold fB_rentsAt fB_rentsAt_0
  rw [m1]
  simp only [Option.bind_some, m2]
  exact ⟨_, rfl, m3⟩
def styB (ρ : sRu) (B : sBd) (p n s : Nat) : Bool := decide (stS ρ B p s n ≤ bU B p) && frB B p s
theorem M_stayIn {h : rb_H} {B : sBd} {ρ : sRu} (hR : RM h 50 B) (hW : WF B) (hU : RuM h ρ) {p s n : Nat} (hp : p < bN B) (hs : s < 25) (hn : n ≤ 20) (b : Int32) : ∃ x, rb_iter rb_fuel (fun z => fM_stays_65b (nI p) (nI n) b (nI s) z.1 z.2.1 z.2.2) (nI (bU B p), (0 : Int32), h) = some x ∧ ((x.1 < 0 ↔ bU B p < stS ρ B p s n) ∧ Ag (60 :: mR) h x.2) := by
  have hu := (hW.2.2.1 p hp).2.2.2
  refine rb_loop (fun z => ∃ k, k ≤ n ∧ z.1 = nI (bU B p) - nI (stS ρ B p s k) ∧ z.2.1 = nI k ∧ Ag (60 :: mR) h z.2.2) _ (fun z => 21 - z.2.1.toNatClampNeg) ⟨0, Nat.zero_le _, ?_, rfl, Ag_refl _ _⟩ ?_ ?_
  · show nI (bU B p) = nI (bU B p) - nI 0
    rw [nI_sub (Nat.zero_le _)]; rfl
  · dsimp only; omega
  · rintro ⟨v, w, h1⟩ ⟨k, hk, e1, e2, hA⟩
    dsimp only at e1 e2 hA ⊢
    subst e1
    subst e2
    have hb := stS_le ρ B p s k
    have sign : (nI (bU B p) - nI (stS ρ B p s k) < 0 ↔ bU B p < stS ρ B p s k) := by
      by_cases c : stS ρ B p s k ≤ bU B p
      · rw [nI_sub c]
        exact ⟨fun z => absurd z (nI_pos (by omega)), fun z => by omega⟩
      · exact ⟨fun _ => by omega, fun _ => pk_sneg (by omega) (by omega)⟩
    unfold fM_stays_65b
    by_cases c : k = n
    · subst c
      rw [if_pos (nI_le (Nat.le_refl _) (by omega))]
      exact Or.inr ⟨_, rfl, sign, hA⟩
    · rw [if_neg (nI_ge (show k < n by omega) (by omega))]
      by_cases c2 : bU B p < stS ρ B p s k
      · rw [if_pos (sign.mpr c2)]
        refine Or.inr ⟨_, rfl, ⟨fun _ => ?_, fun _ => sign.mpr c2⟩, hA⟩
        have := stS_mono ρ B p s hk
        omega
      · rw [if_neg (fun z => c2 (sign.mp z))]
        obtain ⟨h2, d1, d2⟩ := M_rentBehind (RMn_ag hR hA (by decide)) hW (RuMn_ag hU hA (by decide)) hp hs (nI k)
        rw [d1]
        simp only [Option.bind_some, nI_1]
        refine Or.inl ⟨_, rfl, ⟨k + 1, by omega, ?_, rfl, Ag_trans hA d2⟩, ?_⟩
        · show nI (bU B p) - nI (stS ρ B p s k) - nI _ = nI (bU B p) - nI (stS ρ B p s k + _)
          rw [← nI_add, Int32.sub_sub]
        · show 21 - (nI (k + 1)).toNatClampNeg < 21 - (nI k).toNatClampNeg
          rw [cl_n (by omega), cl_n (by omega)]
          omega
theorem O_stays (x y : Int32) : rb_op (fB_stays x y) (fM_stays x y) := by
  refine rb_op_of (fun σ hσ => ?_)
  have hW := hσ.1
  have h8 := hW.1
  rcases sq_or x (bN (zB σ)) with ⟨p, hp, rfl⟩ | hx
  · by_cases hy1 : y < 1
    · refine at_refuse hσ (-1) (fun h hI => ?_) (fun h hI => ?_)
      · unfold fB_stays fB_stays_0
        rw [S_has_y hI.1 hW hp, if_pos rfl, if_pos hy1]
      · unfold fM_stays fM_stays_0
        rw [M_isPiece_y hI.1 hW hp, if_pos rfl]
        unfold fM_in fM_in_0
        rw [if_pos hy1]
        rfl
    · by_cases hy2 : y ≤ 20
      · have hin : fM_in y 1 20 = true := by
          unfold fM_in fM_in_0
          rw [if_neg hy1, if_neg (Int32.not_lt.mpr hy2)]
        obtain ⟨n, hn, rfl⟩ := nI_of2 (n := 20) (show (20 : Int32).toInt = (20 : Nat) by decide) (fun z => hy1 (Int32.lt_trans z (by decide))) hy2
        by_cases ho : bP (zB σ) p = 25
        · refine at_refuse hσ (-2) (fun h hI => ?_) (fun h hI => ?_)
          · unfold fB_stays fB_stays_0
            rw [S_has_y hI.1 hW hp, if_pos rfl, if_neg hy1, if_pos hy2, S_stands_y hI.1 hW hp]
            simp [ho]
          · unfold fM_stays fM_stays_0
            rw [M_isPiece_y hI.1 hW hp, if_pos rfl, hin, if_pos rfl, M_isOut hI.1 hW hp]
            simp [ho]
        · have hu := (hW.2.2.1 p hp).2.2.2
          refine at_row hσ (bits (styB (zR σ) (zB σ) p n) 25) [(nI (fb_ct (styB (zR σ) (zB σ) p n) 25)).toInt64] (by simp) (fun h hI => ?_) (fun h0 h e hI => ?_)
          · have loop : ∃ x, rb_iter rb_fuel (fun s => fB_stays_53b (nI p) (nI n) (bits (occ (zB σ) fun i => decide (i ≠ p)) 25) s.1 s.2.1 s.2.2) ((0 : Int32), (0 : Int32), h) = some x ∧ (x.1 = bits (styB (zR σ) (zB σ) p n) 25 ∧ Ag [7, 10] h x.2) := by
              refine rb_runP (fun k s => s.1 = bits (styB (zR σ) (zB σ) p n) k ∧ s.2.1 = nI k ∧ Ag [7, 10] h s.2.2) _ 25 ⟨rfl, rfl, Ag_refl _ _⟩ (by omega) ?_ ?_
              · rintro k ⟨v, w, h1⟩ hk ⟨e1, e2, hA⟩
                dsimp only at e1 e2 hA ⊢
                subst e1
                subst e2
                have R1 := RSn_ag hI.1 hA (by decide)
                obtain ⟨h2, d1, d2⟩ := C_rentsAt R1 hW (RuCn_ag hI.2.1 hA (by decide)) hp hk hn
                have hb := stS_le (zR σ) (zB σ) p k n
                have hh : fB_holds (bits (occ (zB σ) fun i => decide (i ≠ p)) 25) (nI k) = !frB (zB σ) p k := by
                  rw [holds_bt _ (by omega), bits_bt _ 25 (by omega) k (by omega)]
                  unfold frB
                  simp [hk]
                have hu2 : rb_hI h2 98 p = nI (bU (zB σ) p) := (AgI d2 (by decide) p).trans (RS94 R1 hp).2.2.2
                have el : nI (bU (zB σ) p) < nI (stS (zR σ) (zB σ) p k n) ↔ bU (zB σ) p < stS (zR σ) (zB σ) p k n := nI_ltI (by omega) (by omega)
                unfold fB_stays_53b fB_stays_98l53
                simp only [if_neg (show ¬ (25 : Int32) ≤ nI k from nI_ge (b := 25) hk (by omega)), hh, d1, Option.bind_some, if_neg (oob_n (show p < 8 by omega) (by omega)), cl_n (show p < 2 ^ 31 by omega), hu2, el, nI_1]
                cases hf : frB (zB σ) p k
                · rw [if_pos (by decide)]
                  refine ⟨_, rfl, ?_, rfl, hA⟩
                  rw [bits_succ]
                  unfold styB
                  rw [hf, Bool.and_false]
                  exact (Int32.or_zero).symm
                · rw [if_neg (by decide)]
                  by_cases c : bU (zB σ) p < stS (zR σ) (zB σ) p k n
                  · rw [if_pos c]
                    refine ⟨_, rfl, ?_, rfl, Ag_trans hA d2⟩
                    rw [bits_succ]
                    unfold styB
                    rw [decide_eq_false (by omega)]
                    exact (Int32.or_zero).symm
                  · rw [if_neg c]
                    refine ⟨_, rfl, ?_, rfl, Ag_trans hA d2⟩
                    rw [bits_succ]
                    unfold styB
                    rw [decide_eq_true (by omega), hf]
                    rfl
              · rintro ⟨v, w, h1⟩ ⟨e1, e2, hA⟩
                dsimp only at e1 e2 hA ⊢
                subst e2
                unfold fB_stays_53b
                rw [if_pos (by decide)]
                exact ⟨_, rfl, e1, hA⟩
            obtain ⟨x, m1, m2, m3⟩ := loop
            obtain ⟨h1, a1, a2, a3⟩ := C_tell2 (nI (fb_ct (styB (zR σ) (zB σ) p n) 25)).toInt64 x.2
            unfold fB_stays fB_stays_0
            rw [S_has_y hI.1 hW hp, if_pos rfl, if_neg hy1, if_pos hy2, S_stands_y hI.1 hW hp]
            simp only [Option.bind_some, decide_eq_true_eq, if_pos ho, S_others hI.1 hW (show p < 100 by omega), m1, m2, rb_lt, bc_bits _ (show 25 ≤ 32 by omega), a1]
            exact ⟨h1, rfl, a2, Ag_trans (AgS (by decide +kernel) m3) (AgS (by decide +kernel) a3)⟩
          · have loop : ∃ x, rb_iter rb_fuel (fun s => fM_stays_44b (nI p) (nI n) s.1 s.2.1 s.2.2) ((0 : Int32), (0 : Int32), h) = some x ∧ (x.1 = bits (styB (zR σ) (zB σ) p n) 25 ∧ Ag (60 :: mR) h x.2) := by
              refine rb_runP (fun k s => s.1 = bits (styB (zR σ) (zB σ) p n) k ∧ s.2.1 = nI k ∧ Ag (60 :: mR) h s.2.2) _ 25 ⟨rfl, rfl, Ag_refl _ _⟩ (by omega) ?_ ?_
              · rintro k ⟨v, w, h1⟩ hk ⟨e1, e2, hA⟩
                dsimp only at e1 e2 hA ⊢
                subst e1
                subst e2
                have R1 := RMn_ag hI.1 hA (by decide)
                obtain ⟨x, d1, d2, d3⟩ := M_stayIn R1 hW (RuMn_ag hI.2.1 hA (by decide)) hp hk hn (bits (styB (zR σ) (zB σ) p n) k)
                have R2 := RMn_ag R1 d3 (by decide)
                unfold fM_stays_44b fM_stays_119l44 fM_stays_120l44
                simp only [if_neg (show ¬ (25 : Int32) ≤ nI k from nI_ge (b := 25) hk (by omega)), nI16, if_neg (oob_n (show 16 + p < 27 by omega) (by omega)), cl_n (show 16 + p < 2 ^ 31 by omega), (R1.2.2.2.2 p hp).2.2.2, d1, Option.bind_some, d2, M_isFree R2 hW hp hk, nI_1]
                by_cases c : bU (zB σ) p < stS (zR σ) (zB σ) p k n
                · rw [if_pos c]
                  refine ⟨_, rfl, ?_, rfl, Ag_trans hA d3⟩
                  rw [bits_succ]
                  unfold styB
                  rw [decide_eq_false (by omega)]
                  rfl
                · rw [if_neg c]
                  cases hf : frB (zB σ) p k
                  · refine ⟨_, rfl, ?_, rfl, Ag_trans hA d3⟩
                    rw [bits_succ]
                    unfold styB
                    rw [hf, Bool.and_false]
                    rfl
                  · refine ⟨_, rfl, ?_, rfl, Ag_trans hA d3⟩
                    rw [bits_succ]
                    unfold styB
                    rw [decide_eq_true (by omega), hf]
                    rfl
              · rintro ⟨v, w, h1⟩ ⟨e1, e2, hA⟩
                dsimp only at e1 e2 hA ⊢
                subst e2
                unfold fM_stays_44b
                rw [if_pos (by decide)]
                exact ⟨_, rfl, e1, hA⟩
            obtain ⟨x, m1, m2, m3⟩ := loop
            obtain ⟨h1, a1, a2, a3⟩ := M_tellA (nI (fb_ct (styB (zR σ) (zB σ) p n) 25)).toInt64 x.2
            unfold fM_stays fM_stays_0
            rw [← e, M_isPiece_y hI.1 hW hp, if_pos rfl, hin, if_pos rfl, M_isOut hI.1 hW hp]
            simp only [Option.bind_some, decide_eq_true_eq, if_neg ho, m1, m2, rb_lt, bc_bits _ (show 25 ≤ 32 by omega), a1]
            exact ⟨h1, rfl, a2, Ag_trans (AgS (by decide +kernel) m3) (AgS (by decide +kernel) a3)⟩
      · refine at_refuse hσ (-1) (fun h hI => ?_) (fun h hI => ?_)
        · unfold fB_stays fB_stays_0
          rw [S_has_y hI.1 hW hp, if_pos rfl, if_neg hy1, if_neg hy2]
        · unfold fM_stays fM_stays_0
          rw [M_isPiece_y hI.1 hW hp, if_pos rfl]
          unfold fM_in fM_in_0
          rw [if_neg hy1, if_pos (Int32.not_le.mp hy2)]
          rfl
  · refine at_refuse hσ (-1) (fun h hI => ?_) (fun h hI => ?_)
    · unfold fB_stays fB_stays_0
      rw [S_has_n hI.1 hW hx, if_neg (by decide)]
    · unfold fM_stays fM_stays_0
      rw [M_isPiece_n hI.1 hW hx, if_neg (by decide)]
/-- squares for cheapest() -/
def chd (B : sBd) (p s : Nat) : Bool := decide (s = bP B p) || (goB B p (bP B p) s && frB B p s)
/-- the least rent so far, and where -/
noncomputable def chO (B : sBd) (p : Nat) (r : Nat → Nat) : Nat → Option (Nat × Nat)
  | 0 => none
  | k + 1 => @ite _ (chd B p k = true ∧ (∀ q, chO B p r k = some q → r k < q.1)) (Classical.propDecidable _) (some (r k, k)) (chO B p r k)
theorem chO_ok (B : sBd) (p : Nat) (r : Nat → Nat) (hr : ∀ s, r s ≤ 20) : ∀ k, (∀ q, chO B p r k = some q → q.1 ≤ 20) ∧ ((∃ s, s < k ∧ chd B p s = true) → chO B p r k ≠ none)
  | 0 => ⟨fun q h => (by cases h), fun ⟨s, h, _⟩ => absurd h (Nat.not_lt_zero _)⟩
  | k + 1 => by
    obtain ⟨i1, i2⟩ := chO_ok B p r hr k
    unfold chO
    by_cases c : chd B p k = true ∧ (∀ q, chO B p r k = some q → r k < q.1)
    · simp only [if_pos c]
      refine ⟨fun q h => ?_, fun _ => by simp⟩
      cases h
      exact hr k
    · simp only [if_neg c]
      refine ⟨i1, fun ⟨s, h1, h2⟩ => ?_⟩
      by_cases e : s = k
      · subst e
        intro hn
        apply c
        refine ⟨h2, fun q hq => ?_⟩
        rw [hn] at hq
        cases hq
      · exact i2 ⟨s, by omega, h2⟩
