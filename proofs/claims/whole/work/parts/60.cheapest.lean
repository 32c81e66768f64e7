theorem chd_bit {B : sBd} (hW : WF B) {p s : Nat} (hp : p < bN B) (hs : s < 25) (ho : bP B p ≠ 25) : bt ((goBits B p &&& (bits (occ B fun i => decide (i ≠ p)) 25 ^^^ (-1))) ||| rb_shl 1 (nI (bP B p))) s = chd B p s := by
  have hw := (hW.2.2.1 p hp).2.2.1
  unfold goBits
  rw [b_or, b_and, xor_m1 _ (by omega), bits_bt _ 25 (by omega) s (by omega), bits_bt _ 25 (by omega) s (by omega), shl1_bt (by omega) (by omega)]
  unfold chd frB
  simp [hs]
  cases goB B p (bP B p) s <;> cases occ B (fun i => !decide (i = p)) s <;> simp
theorem M_chd {h : rb_H} {B : sBd} (hR : RM h 50 B) (hW : WF B) {p s : Nat} (hp : p < bN B) (hs : s < 25) (hne : s ≠ bP B p) : fM_on 50 (nI s) h = some (if who B s < bN B then nI (who B s) else -1) ∧ ((if who B s < bN B then nI (who B s) else (-1 : Int32)) = -1 ↔ frB B p s = true) := by
  have h8 := hW.1
  refine ⟨M_on hR hW (by omega), ?_⟩
  rw [fr_who hW hs]
  by_cases c : who B s < bN B
  · have hwp : who B s ≠ p := fun z => hne (by rw [← z]; exact (who_at c).symm)
    rw [if_pos c]
    constructor
    · intro z
      have := nI_pos' (n := who B s) (by omega)
      rw [z] at this
      exact absurd this (by decide)
    · intro z
      simp [c, hwp] at z
  · rw [if_neg c]
    simp [c]
def chF (q : Option (Nat × Nat)) (d : Int32) : Int32 := match q with | none => d | some q => nI q.2
def chL (q : Option (Nat × Nat)) (d : Int32) : Int32 := match q with | none => d | some q => nI q.1
theorem chO_y {B : sBd} {p : Nat} {r : Nat → Nat} {k : Nat} (c : chd B p k = true ∧ (∀ q, chO B p r k = some q → r k < q.1)) : chO B p r (k + 1) = some (r k, k) := if_pos c
theorem chO_n {B : sBd} {p : Nat} {r : Nat → Nat} {k : Nat} (c : ¬ (chd B p k = true ∧ (∀ q, chO B p r k = some q → r k < q.1))) : chO B p r (k + 1) = chO B p r k := if_neg c
theorem O_cheapest (x : Int32) : rb_op (fB_cheapest x) (fM_cheapest x) := by
  refine rb_op_of (fun σ hσ => ?_)
  have hW := hσ.1
  have h8 := hW.1
  rcases sq_or x (bN (zB σ)) with ⟨p, hp, rfl⟩ | hx
  · by_cases ho : bP (zB σ) p = 25
    · refine at_refuse hσ (-2) (fun h hI => ?_) (fun h hI => ?_)
      · unfold fB_cheapest fB_cheapest_0
        rw [S_has_y hI.1 hW hp, if_pos rfl, S_stands_y hI.1 hW hp]
        simp [ho]
      · unfold fM_cheapest fM_cheapest_0
        rw [M_isPiece_y hI.1 hW hp, if_pos rfl, M_isOut hI.1 hW hp]
        simp [ho]
    · have hw := (hW.2.2.1 p hp).2.2.1
      have hpl : bP (zB σ) p < 25 := by omega
      generalize hr : (fun s => rentN (zR σ) (zB σ) p s (bQ (zB σ))) = r
      have hr20 : ∀ s, r s ≤ 20 := fun s => by rw [← hr]; exact rentN_le _ _ _ _ _
      obtain ⟨k1, k2⟩ := chO_ok (zB σ) p r hr20 25
      cases hq : chO (zB σ) p r 25 with
      | none => exact absurd hq (k2 ⟨bP (zB σ) p, hpl, by unfold chd; simp⟩)
      | some q =>
        have q20 := k1 q hq
        have own : dueN (zR σ) (zB σ) p = r (bP (zB σ) p) := by
          unfold dueN
          rw [if_neg ho, ← hr]
        refine at_row hσ (nI q.2) [(nI q.1).toInt64, (nI (r (bP (zB σ) p))).toInt64] (by simp) (fun h hI => ?_) (fun h0 h e hI => ?_)
        · have loop : ∃ x, rb_iter rb_fuel (fun s => fB_cheapest_76b (nI p) ((goBits (zB σ) p &&& (bits (occ (zB σ) fun i => decide (i ≠ p)) 25 ^^^ (-1))) ||| rb_shl 1 (nI (bP (zB σ) p))) s.1 s.2.1 s.2.2.1 s.2.2.2) ((21 : Int32), nI (bP (zB σ) p), (0 : Int32), h) = some x ∧ (x.1 = nI q.1 ∧ x.2.1 = nI q.2 ∧ Ag [7, 10] h x.2.2) := by
            refine rb_runP (fun k s => s.1 = chL (chO (zB σ) p r k) 21 ∧ s.2.1 = chF (chO (zB σ) p r k) (nI (bP (zB σ) p)) ∧ s.2.2.1 = nI k ∧ Ag [7, 10] h s.2.2.2) _ 25 ⟨rfl, rfl, rfl, Ag_refl _ _⟩ (by omega) ?_ ?_
            · rintro k ⟨v, w, y, h1⟩ hk ⟨e1, e2, e3, hA⟩
              dsimp only at e1 e2 e3 hA ⊢
              subst e3
              have R1 := RSn_ag hI.1 hA (by decide)
              have hb := chd_bit hW hp hk ho
              obtain ⟨j1, -⟩ := chO_ok (zB σ) p r hr20 k
              unfold fB_cheapest_76b fB_cheapest_118l76 fB_cheapest_133l76
              rw [if_neg (show ¬ (25 : Int32) ≤ nI k from nI_ge (b := 25) hk (by omega)), holds_bt _ (show k < 32 by omega), hb]
              cases hc : chd (zB σ) p k
              · have : ¬ (chd (zB σ) p k = true ∧ (∀ q, chO (zB σ) p r k = some q → r k < q.1)) := fun z => by rw [hc] at z; exact absurd z.1 (by decide)
                have hle : v ≤ 21 := by
                  rw [e1]
                  cases hz : chO (zB σ) p r k with
                  | none => exact Int32.le_refl _
                  | some z => exact nI_le (b := 21) (by have := j1 z hz; omega) (by omega)
                rw [if_neg (by decide), if_pos hle, nI_1]
                exact ⟨_, rfl, by rw [chO_n this]; exact e1, by rw [chO_n this]; exact e2, rfl, hA⟩
              · obtain ⟨h2, d1, d2⟩ := S_rentAt R1 hW (RuCn_ag hI.2.1 hA (by decide)) hp hk (by decide) (bQ (zB σ))
                have er : rentN (zR σ) (zB σ) p k (bQ (zB σ)) = r k := by rw [← hr]
                rw [er] at d1
                rw [if_pos rfl, R1.2.2.1, d1]
                simp only [Option.bind_some, nI_1]
                have hk20 := hr20 k
                by_cases c : ∀ z, chO (zB σ) p r k = some z → r k < z.1
                · have hlt : ¬ v ≤ nI (r k) := by
                    rw [e1]
                    cases hz : chO (zB σ) p r k with
                    | none => exact nI_ge (b := 21) (by omega) (by omega)
                    | some z => exact nI_ge (c z hz) (by have := j1 z hz; omega)
                  rw [if_neg hlt]
                  exact ⟨_, rfl, by rw [chO_y ⟨hc, c⟩]; rfl, by rw [chO_y ⟨hc, c⟩]; rfl, rfl, Ag_trans hA d2⟩
                · have hle : v ≤ nI (r k) := by
                    rw [e1]
                    cases hz : chO (zB σ) p r k with
                    | none => exact absurd (fun z h => by rw [hz] at h; cases h) c
                    | some z =>
                      refine nI_le (Nat.not_lt.mp fun q => c (fun y hy => ?_)) (by omega)
                      rw [hz] at hy; cases hy; exact q
                  rw [if_pos hle]
                  exact ⟨_, rfl, by rw [chO_n (fun z => c z.2)]; exact e1, by rw [chO_n (fun z => c z.2)]; exact e2, rfl, Ag_trans hA d2⟩
            · rintro ⟨v, w, y, h1⟩ ⟨e1, e2, e3, hA⟩
              dsimp only at e1 e2 e3 hA ⊢
              subst e3
              rw [hq] at e1 e2
              unfold fB_cheapest_76b
              rw [if_pos (by decide)]
              exact ⟨_, rfl, e1, e2, hA⟩
          obtain ⟨x, m1, m2, m3, m4⟩ := loop
          obtain ⟨h1, d1, d2⟩ := S_due (RSn_ag hI.1 m4 (by decide)) hW (RuCn_ag hI.2.1 m4 (by decide)) (by decide) hp
          rw [own] at d1
          obtain ⟨h2, a1, a2, a3⟩ := C_tell1 (nI q.1).toInt64 (nI (r (bP (zB σ) p))).toInt64 h1
          unfold fB_cheapest fB_cheapest_0
          rw [S_has_y hI.1 hW hp, if_pos rfl, S_stands_y hI.1 hW hp]
          have hrc : fS_reach 94 (nI p) h = some (goBits (zB σ) p) := S_reach_y hI.1 hW hp ho
          simp only [Option.bind_some, decide_eq_true_eq, if_pos ho, hrc, S_others hI.1 hW (show p < 100 by omega), if_neg (oob_n (show p < 8 by omega) (by omega)), cl_n (show p < 2 ^ 31 by omega), (RS94 hI.1 hp).2.2.1, m1, d1, m2, m3, a1]
          exact ⟨h2, rfl, a2, Ag_trans (AgS (by decide +kernel) m4) (Ag_trans (AgS (by decide +kernel) d2) (AgS (by decide +kernel) a3))⟩
        · have loop : ∃ x, rb_iter rb_fuel (fun s => fM_cheapest_49b (nI p) (nI (bP (zB σ) p)) s.1 s.2.1 s.2.2.1 s.2.2.2) ((-1 : Int32), (1000000 : Int32), (0 : Int32), h) = some x ∧ (x.1 = nI q.2 ∧ x.2.1 = nI q.1 ∧ Ag mR h x.2.2) := by
            refine rb_runP (fun k s => s.1 = chF (chO (zB σ) p r k) (-1) ∧ s.2.1 = chL (chO (zB σ) p r k) 1000000 ∧ s.2.2.1 = nI k ∧ Ag mR h s.2.2.2) _ 25 ⟨rfl, rfl, rfl, Ag_refl _ _⟩ (by omega) ?_ ?_
            · rintro k ⟨v, w, y, h1⟩ hk ⟨e1, e2, e3, hA⟩
              dsimp only at e1 e2 e3 hA ⊢
              subst e3
              have R1 := RMn_ag hI.1 hA (by decide)
              obtain ⟨j1, -⟩ := chO_ok (zB σ) p r hr20 k
              have hk20 := hr20 k
              have take : chd (zB σ) p k = true → ∃ s', fM_cheapest_93l49 (nI p) (nI (bP (zB σ) p)) v w (nI k) h1 = some (Sum.inl s') ∧ (s'.1 = chF (chO (zB σ) p r (k + 1)) (-1) ∧ s'.2.1 = chL (chO (zB σ) p r (k + 1)) 1000000 ∧ s'.2.2.1 = nI (k + 1) ∧ Ag mR h s'.2.2.2) := by
                intro hc
                obtain ⟨h2, d1, d2⟩ := M_rentOf R1 hW (RuMn_ag hI.2.1 hA (by decide)) hp hk (by decide) (by decide) (by decide)
                have er : rentN (zR σ) (zB σ) p k (bQ (zB σ)) = r k := by rw [← hr]
                rw [er] at d1
                have A2 := Ag_trans hA (Ag_mono (fun x hx => mR_sub hx) d2)
                unfold fM_cheapest_93l49 fM_cheapest_123l49
                rw [d1]
                simp only [Option.bind_some, nI_1]
                by_cases c : ∀ z, chO (zB σ) p r k = some z → r k < z.1
                · have hlt : nI (r k) < w := by
                    rw [e2]
                    cases hz : chO (zB σ) p r k with
                    | none => exact nI_lt (b := 1000000) (by omega) (by omega)
                    | some z => exact nI_lt (c z hz) (by have := j1 z hz; omega)
                  rw [if_pos hlt]
                  exact ⟨_, rfl, by rw [chO_y ⟨hc, c⟩]; rfl, by rw [chO_y ⟨hc, c⟩]; rfl, rfl, A2⟩
                · have hle : ¬ nI (r k) < w := by
                    rw [e2]
                    cases hz : chO (zB σ) p r k with
                    | none => exact absurd (fun z h => by rw [hz] at h; cases h) c
                    | some z =>
                      refine nI_nlt (Nat.not_lt.mp fun q => c (fun y hy => ?_)) (by omega)
                      rw [hz] at hy; cases hy; exact q
                  rw [if_neg hle]
                  exact ⟨_, rfl, by rw [chO_n (fun z => c z.2)]; exact e1, by rw [chO_n (fun z => c z.2)]; exact e2, rfl, A2⟩
              have skip : chd (zB σ) p k = false → ∃ s', fM_cheapest_123l49 (nI p) (nI (bP (zB σ) p)) v w (nI k) h1 = some (Sum.inl s') ∧ (s'.1 = chF (chO (zB σ) p r (k + 1)) (-1) ∧ s'.2.1 = chL (chO (zB σ) p r (k + 1)) 1000000 ∧ s'.2.2.1 = nI (k + 1) ∧ Ag mR h s'.2.2.2) := by
                intro hc
                have : ¬ (chd (zB σ) p k = true ∧ (∀ q, chO (zB σ) p r k = some q → r k < q.1)) := fun z => by rw [hc] at z; exact absurd z.1 (by decide)
                unfold fM_cheapest_123l49
                exact ⟨_, rfl, by rw [chO_n this]; exact e1, by rw [chO_n this]; exact e2, nI_1 _, hA⟩
              have ep : nI k = nI (bP (zB σ) p) ↔ k = bP (zB σ) p := nI_eq (by omega) (by omega)
              unfold fM_cheapest_49b
              rw [if_neg (show ¬ (25 : Int32) ≤ nI k from nI_ge (b := 25) hk (by omega))]
              by_cases ek : k = bP (zB σ) p
              · rw [if_pos (ep.mpr ek)]
                exact take (by unfold chd; simp [ek])
              · obtain ⟨f1, f2⟩ := M_chd R1 hW hp hk ek
                rw [if_neg (fun z => ek (ep.mp z)), f1]
                simp only [Option.bind_some]
                cases hf : frB (zB σ) p k
                · rw [if_neg (fun z => by rw [f2.mp z] at hf; cases hf)]
                  exact skip (by unfold chd; simp [ek, hf])
                · rw [if_pos (f2.mpr hf), M_canGoNow R1 hW hp hk]
                  simp only [Option.bind_some]
                  cases hg : goB (zB σ) p (bP (zB σ) p) k
                  · rw [if_neg (by simp)]
                    exact skip (by unfold chd; simp [ek, hg])
                  · rw [if_pos (by simp [ho])]
                    exact take (by unfold chd; simp [hg, hf])
            · rintro ⟨v, w, y, h1⟩ ⟨e1, e2, e3, hA⟩
              dsimp only at e1 e2 e3 hA ⊢
              subst e3
              rw [hq] at e1 e2
              unfold fM_cheapest_49b
              rw [if_pos (by decide)]
              exact ⟨_, rfl, e1, e2, hA⟩
          obtain ⟨x, m1, m2, m3, m4⟩ := loop
          obtain ⟨h1, a1, a2, a3⟩ := M_tellA (nI q.1).toInt64 x.2.2
          have A1 : Ag fM0 h h1 := Ag_trans (AgS (by decide +kernel) m4) (AgS (by decide +kernel) a3)
          obtain ⟨h2, d1, d2⟩ := M_rentOf (RMn_ag hI.1 A1 (by decide +kernel)) hW (RuMn_ag hI.2.1 A1 (by decide +kernel)) hp hpl (by decide) (by decide) (by decide)
          have er : rentN (zR σ) (zB σ) p (bP (zB σ) p) (bQ (zB σ)) = r (bP (zB σ) p) := by rw [← hr]
          rw [er] at d1
          obtain ⟨h3, b1, b2, b3⟩ := M_tell (RWm_ag a2 d2 (by decide)) (by simp) (nI (r (bP (zB σ) p))).toInt64
          unfold fM_cheapest fM_cheapest_0
          rw [← e, M_isPiece_y hI.1 hW hp, if_pos rfl, M_isOut hI.1 hW hp]
          simp only [Option.bind_some, decide_eq_true_eq, if_neg ho, nI8, if_neg (oob_n (show 8 + p < 27 by omega) (by omega)), cl_n (show 8 + p < 2 ^ 31 by omega), (hI.1.2.2.2.2 p hp).2.2.1, m1, m2, m3, a1, d1, b1]
          exact ⟨h3, rfl, b2, Ag_trans A1 (Ag_trans (AgS (by decide +kernel) d2) (AgS (by decide +kernel) b3))⟩
  · refine at_refuse hσ (-1) (fun h hI => ?_) (fun h hI => ?_)
    · unfold fB_cheapest fB_cheapest_0
      rw [S_has_n hI.1 hW hx, if_neg (by decide)]
    · unfold fM_cheapest fM_cheapest_0
      rw [M_isPiece_n hI.1 hW hx, if_neg (by decide)]
