theorem M_in_1 {k n : Nat} (h1 : 1 ≤ k) (h : k ≤ n) (hn : n < 2 ^ 31) {M : Int32} (hM : M = nI n) : fM_in (nI k) 1 M = true := by
  unfold fM_in fM_in_0
  rw [if_neg (show ¬ nI k < (1 : Int32) from nI_nlt (b := 1) (by omega) (by omega)), hM, if_neg (nI_nlt (by omega) (by omega))]
theorem O_years (x y : Int32) : rb_op (fB_years x y) (fM_years x y) := by
  refine rb_op_of (fun σ hσ => ?_)
  have hW := hσ.1
  by_cases y1 : y < 1
  · refine at_refuse hσ (-1) (fun h hI => ?_) (fun h hI => ?_)
    · unfold fB_years fB_years_0
      rw [if_pos y1]
    · unfold fM_years fM_years_0 fM_in fM_in_0
      rw [if_pos y1, if_neg (by decide)]
  · by_cases y2 : y ≤ 60
    · obtain ⟨n, hn, rfl⟩ : ∃ n, (1 ≤ n ∧ n ≤ 60) ∧ y = nI n := by
        rcases rg_or y (n := 60) (by omega) with ⟨k, hk, rfl⟩ | hy
        · refine ⟨k, ⟨?_, hk⟩, rfl⟩
          have : ¬ nI k < nI 1 := y1
          rw [nI_ltI (by omega) (by omega)] at this
          omega
        · rcases hy with hy | ⟨-, hy⟩
          · exact absurd (Int32.lt_trans hy (by decide)) y1
          · exact absurd y2 (Int32.not_le.mpr hy)
      obtain ⟨hWn, hMn, hNn⟩ := yeR_ok (ρ := zR σ) (s := x) hW n
      have dif : bM (yeR (zR σ) (zB σ) x n).2.1 - bM (zB σ) = (yeR (zR σ) (zB σ) x n).2.2 := by
        rw [hMn, Int32.add_comm, Int32.add_sub_cancel]
      generalize hq : yeR (zR σ) (zB σ) x n = q at hWn hMn hNn dif
      refine at_row hσ (nI (stN q.2.1)) [(nI (sumU q.2.1 (fun i => decide (bS q.2.1 i = 0)) (bN q.2.1)) + nI (sumU q.2.1 (fun i => decide (bS q.2.1 i = 1)) (bN q.2.1))).toInt64, q.2.2.toInt64] (by simp) (fun h hI => ?_) (fun h0 h e hI => ?_)
      · obtain ⟨h1, a1, a2, a3, a4, a5⟩ := C_trial hσ hI
        obtain ⟨h2, b1, b2, b3⟩ := C_yearsL a2 hW a3 hn.2 x
        rw [hq] at b2
        have f8 : rb_hF h2 94 8 = bM (zB σ) := (RSn_ag a4 b3 (by decide)).2.2.2.1
        obtain ⟨h3, c1, c2, c3⟩ := C_tell1 (nI (sumU q.2.1 (fun i => decide (bS q.2.1 i = 0)) (bN q.2.1)) + nI (sumU q.2.1 (fun i => decide (bS q.2.1 i = 1)) (bN q.2.1))).toInt64 q.2.2.toInt64 h2
        have R3 : RS h3 106 q.2.1 := RS_ag b2 c3 (by decide) (by decide)
        unfold fB_years fB_years_0
        rw [if_neg y1, if_pos y2, a1, Option.bind_some, b1, Option.bind_some, show (0 : Int32) = nI 0 from rfl, S_pursesOf b2 hWn (t := 0) (by omega), Option.bind_some, show (1 : Int32) = nI 1 from rfl, S_pursesOf b2 hWn (t := 1) (by omega), Option.bind_some, b2.2.2.2.1, f8, dif, c1, Option.bind_some, S_standing R3 hWn, Option.bind_some]
        exact ⟨h3, rfl, c2, Ag_trans (fC9_0 a5) (Ag_trans (AgS (by decide +kernel) b3) (AgS (by decide +kernel) c3))⟩
      · have A0 : Ag [1041] h (rb_sF h 49 41 x) := Ag_sF (by decide) (Ag_refl _ _)
        have R0 : RM (rb_sF h 49 41 x) 50 (zB σ) := RMn_ag hI.1 A0 (by decide)
        have U0 : RuM (rb_sF h 49 41 x) (zR σ) := RuMn_ag hI.2.1 A0 (by decide)
        have f0 : rb_hF (rb_sF h 49 41 x) 49 41 = x := by rw [hF_sF, if_pos ⟨rfl, rfl⟩]
        obtain ⟨h1, a1, a2, a3⟩ := M_layB (a := 50) (b := 60) R0 hW (by decide) (by decide) (by rfl)
        have f1 : rb_hF h1 49 41 = x := (AgF a3 (by decide)).trans f0
        obtain ⟨z, b1, b2, b3, b4⟩ := M_yearsL a2 hW (RuMn_ag U0 a3 (by decide)) hn.2 x f1
        rw [hq] at b2 b3
        have A6 : Ag [1006] z.2 (rb_sF z.2 49 6 0) := Ag_sF (by decide) (Ag_refl _ _)
        have R6 : RM (rb_sF z.2 49 6 0) 60 q.2.1 := RM_ag b3 A6 (by decide)
        obtain ⟨h3, c1, c2, c3⟩ := M_tell (M_row0 z.2) (by decide) (nI (sumU q.2.1 (fun i => decide (bS q.2.1 i = 0)) (bN q.2.1)) + nI (sumU q.2.1 (fun i => decide (bS q.2.1 i = 1)) (bN q.2.1))).toInt64
        obtain ⟨h4, d1, d2, d3⟩ := M_tell c2 (by simp) q.2.2.toInt64
        have R4 : RM h4 60 q.2.1 := RM_ag (RM_ag R6 c3 (by decide)) d3 (by decide)
        unfold fM_years fM_years_0
        rw [← e, M_in_1 hn.1 hn.2 (by omega) (M := 60) rfl, if_pos rfl, a1, Option.bind_some, b1, Option.bind_some, M_purses2 R6 hWn, Option.bind_some, c1, Option.bind_some, b2, d1, Option.bind_some, M_inMany R4 hWn, Option.bind_some]
        exact ⟨h4, rfl, d2, Ag_trans (AgS (by decide +kernel) A0) (Ag_trans (AgS (by decide +kernel) a3) (Ag_trans (AgS (by decide +kernel) b4) (Ag_trans (AgS (by decide +kernel) A6) (Ag_trans (AgS (by decide +kernel) c3) (AgS (by decide +kernel) d3)))))⟩
    · refine at_refuse hσ (-1) (fun h hI => ?_) (fun h hI => ?_)
      · unfold fB_years fB_years_0
        rw [if_neg y1, if_neg y2]
      · unfold fM_years fM_years_0 fM_in fM_in_0
        rw [if_neg y1, if_pos (show (60 : Int32) < y from Int32.not_le.mp y2), if_neg (by decide)]
