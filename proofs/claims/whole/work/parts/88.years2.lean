def yeM : List Nat := [60, 1024, 1041] ++ mR
theorem mvA_no {B : sBd} {p s : Nat} (h : canM B p s = true) : mvA B p s = 0 := by
  unfold canM at h
  simp only [Bool.and_eq_true, decide_eq_true_eq] at h
  unfold mvA
  rw [if_neg (fun z => z.elim h.1.1 (fun z => z h.1.2)), if_pos h.2]
theorem M_yearsL {h : rb_H} {B : sBd} {ρ : sRu} (hR : RM h 60 B) (hW : WF B) (hU : RuM h ρ) {n : Nat} (hn : n ≤ 60) (s : Int32) (hs0 : rb_hF h 49 41 = s) : ∃ x, rb_iter rb_fuel (fun q => fM_years_39b (nI n) q.1 q.2.1 q.2.2) ((0 : Int32), (0 : Int32), h) = some x ∧ (x.1 = (yeR ρ B s n).2.2 ∧ RM x.2 60 (yeR ρ B s n).2.1 ∧ Ag yeM h x.2) := by
  refine rb_runP (fun k q => q.1 = (yeR ρ B s k).2.2 ∧ q.2.1 = nI k ∧ RM q.2.2 60 (yeR ρ B s k).2.1 ∧ Ag yeM h q.2.2 ∧ rb_hF q.2.2 49 41 = (yeR ρ B s k).1) _ n ⟨rfl, rfl, hR, Ag_refl _ _, hs0⟩ (by omega) ?_ ?_
  · rintro k ⟨t, z, g⟩ hk ⟨e1, e2, hRk, hA, hsd⟩
    dsimp only at e1 e2 hRk hA hsd ⊢
    subst e1
    subst e2
    obtain ⟨hWk, -, -⟩ := yeR_ok (ρ := ρ) (s := s) hW k
    have Uk : RuM g ρ := RuMn_ag hU hA (by decide)
    have hN8 := hWk.1
    have nx : yeR ρ B s (k + 1) = yeS ρ (yeR ρ B s k) := rfl
    rw [nx]
    generalize yeR ρ B s k = q at *
    unfold fM_years_39b yeS
    rw [if_neg (nI_ge hk (by omega))]
    have d4 : fM_draw 4 g = some (nI (dw (nD q.1) % 4), rb_sF g 49 41 (nD q.1)) := M_drawN hsd (n := 4) (by omega) (by omega)
    have dN : ∀ X, rb_hF X 49 41 = nD q.1 → ¬ bN q.2.1 = 0 → fM_draw (nI (bN q.2.1)) X = some (nI (dw (nD (nD q.1)) % bN q.2.1), rb_sF X 49 41 (nD (nD q.1))) := fun X hX c => M_drawN hX (by omega) (by omega)
    have d25 : ∀ X, rb_hF X 49 41 = nD (nD q.1) → fM_draw 25 X = some (nI (dw (nD (nD (nD q.1))) % 25), rb_sF X 49 41 (nD (nD (nD q.1)))) := fun X hX => M_drawN hX (n := 25) (by omega) (by omega)
    generalize nD q.1 = s1 at d4 dN d25 ⊢
    generalize nD s1 = s2 at dN d25 ⊢
    generalize nD s2 = s3 at d25 ⊢
    have b4 : dw s1 % 4 < 4 := Nat.mod_lt _ (by decide)
    have hs : dw s3 % 25 < 25 := Nat.mod_lt _ (by decide)
    have hp : ¬ bN q.2.1 = 0 → dw s2 % bN q.2.1 < bN q.2.1 := fun c => Nat.mod_lt _ (Nat.pos_of_ne_zero c)
    generalize dw s1 % 4 = t4 at d4 b4 ⊢
    generalize dw s3 % 25 = s at d25 hs ⊢
    generalize dw s2 % bN q.2.1 = p at dN hp ⊢
    rw [d4, Option.bind_some]
    have A1 : Ag [1041] g (rb_sF g 49 41 s1) := Ag_sF (by decide) (Ag_refl _ _)
    have R1 : RM (rb_sF g 49 41 s1) 60 q.2.1 := RM_ag hRk A1 (by decide)
    have U1 : RuM (rb_sF g 49 41 s1) ρ := RuMn_ag Uk A1 (by decide)
    have f1 : rb_hF (rb_sF g 49 41 s1) 49 41 = s1 := by rw [hF_sF, if_pos ⟨rfl, rfl⟩]
    have e3 : nI t4 = (3 : Int32) ↔ t4 = 3 := nI_eq (b := 3) (by omega) (by omega)
    have B1 : Ag yeM h (rb_sF g 49 41 s1) := Ag_trans hA (AgS (by decide) A1)
    generalize rb_sF g 49 41 s1 = g1 at R1 U1 f1 B1 ⊢
    by_cases c1 : t4 = 3
    · obtain ⟨g2, a1, a2, -, a4⟩ := M_goQuarter R1 hWk U1 (show mA 60 by unfold mA; omega)
      have f2 : rb_hF g2 49 41 = s1 := (AgF a4 (by decide)).trans f1
      rw [if_pos (e3.mpr c1), if_pos c1, a1, Option.bind_some]
      unfold fM_years_67l39 fM_years_135l39
      rw [if_pos (e3.mpr c1), nI_1]
      exact ⟨_, rfl, rfl, rfl, a2, Ag_trans B1 (AgS (by decide) a4), f2⟩
    · rw [if_neg (fun z => c1 (e3.mp z)), if_neg c1]
      unfold fM_years_67l39 fM_years_135l39
      rw [if_neg (fun z => c1 (e3.mp z)), R1.1, nI_1]
      by_cases c2 : bN q.2.1 = 0
      · rw [if_pos (show nI (bN q.2.1) = (0 : Int32) from by rw [c2]; rfl), if_pos c2]
        exact ⟨_, rfl, rfl, rfl, R1, B1, f1⟩
      · have hp := hp c2
        have n0 : ¬ nI (bN q.2.1) = (0 : Int32) := fun z => c2 ((nI_eq (b := 0) (by omega) (by omega)).mp z)
        rw [if_neg n0, if_neg c2, dN g1 f1 c2, Option.bind_some]
        have A2 : Ag [1041] g1 (rb_sF g1 49 41 s2) := Ag_sF (by decide) (Ag_refl _ _)
        have f2 : rb_hF (rb_sF g1 49 41 s2) 49 41 = s2 := by rw [hF_sF, if_pos ⟨rfl, rfl⟩]
        generalize rb_sF g1 49 41 s2 = g2 at A2 f2 ⊢
        rw [d25 g2 f2, Option.bind_some]
        have A3 : Ag [1041] g2 (rb_sF g2 49 41 s3) := Ag_sF (by decide) (Ag_refl _ _)
        have f3 : rb_hF (rb_sF g2 49 41 s3) 49 41 = s3 := by rw [hF_sF, if_pos ⟨rfl, rfl⟩]
        generalize rb_sF g2 49 41 s3 = g3 at A3 f3 ⊢
        have R3 : RM g3 60 q.2.1 := RM_ag R1 (Ag_trans A2 A3) (by decide)
        have B3 : Ag yeM h g3 := Ag_trans B1 (AgS (by decide) (Ag_trans A2 A3))
        rw [M_refuses R3 hWk hp hs, Option.bind_some]
        by_cases c3 : canM q.2.1 p s = true
        · obtain ⟨g4, a1, a2, a3⟩ := M_goMove (a := 60) R3 hWk hp hs (canM_ne hWk hp hs c3) (by decide) (by decide)
          have f4 : rb_hF g4 49 41 = s3 := (AgF a3 (by decide)).trans f3
          rw [mvA_no c3, if_pos (by decide), if_pos c3, a1, Option.bind_some]
          exact ⟨_, rfl, rfl, rfl, a2, Ag_trans B3 (AgS (by decide) a3), f4⟩
        · have neg : mvA q.2.1 p s < 0 := mvA_neg (fun z => c3 (mvA_can z))
          rw [if_neg (Int32.not_le.mpr neg), if_neg c3]
          exact ⟨_, rfl, rfl, rfl, R3, B3, f3⟩
  · rintro ⟨t, z, g⟩ ⟨e1, e2, hRk, hA, hsd⟩
    dsimp only at e1 e2 hRk hA hsd ⊢
    subst e2
    unfold fM_years_39b
    rw [if_pos (nI_le (Nat.le_refl _) (by omega))]
    exact ⟨_, rfl, e1, hRk, hA⟩
