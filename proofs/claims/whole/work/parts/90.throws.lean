/-! the methods that may throw -/
def rb_opT {Y : Type} (C M : rb_H → Option (Y × rb_H)) (T : rb_H → Prop) : Prop := ∀ σ, WS σ → (∃ r, (∀ h, IC h σ → ∃ h', C h = some (r, h') ∧ IC h' σ ∧ Ag cC h h') ∧ ∀ h, IM h σ → ∃ h', M h = some (r, h') ∧ rb_hF h' 49 7 = 0 ∧ IM h' σ ∧ Ag cM h h') ∨ ((∀ h, IC h σ → T h) ∧ ∀ h, IM h σ → ∃ r h', M h = some (r, h') ∧ rb_hF h' 49 7 = 1 ∧ IM h' σ ∧ Ag cM h h')
theorem thr_0 (h : rb_H) : rb_hF (rb_sF h 49 7 0) 49 7 = 0 := by rw [hF_sF, if_pos ⟨rfl, rfl⟩]
theorem M_lostR {h : rb_H} {σ : sSt} (hI : IM h σ) : ∃ h', fM_lost (rb_sF h 49 7 0) = ((0 : Int32), h') ∧ rb_hF h' 49 7 = 1 ∧ IM h' σ ∧ Ag cM h h' := by
  have A : Ag [1007] h (rb_sF (rb_sF h 49 7 0) 49 7 1) := Ag_sF (by decide) (Ag_sF (by decide) (Ag_refl _ _))
  exact ⟨_, rfl, by rw [hF_sF, if_pos ⟨rfl, rfl⟩], IM_ag hI A (by decide), AgS (by decide +kernel) A⟩
theorem O_row (x : Int32) : rb_opT (fun h => (fB_row x h).map fun r => (r, h)) (fM_row x) (fun h => x < 0 ∨ (¬ x < 0 ∧ rb_hF h 3 1 ≤ x)) := by
  intro σ hσ
  have hl := hσ.2.2.1
  rcases rg_or x (n := 2147483647) (by omega) with ⟨k, hk, rfl⟩ | hx
  · by_cases c : k < (zT σ).length
    · refine Or.inl ⟨(zT σ).getD k 0, fun h hI => ⟨h, ?_, C_ref hI⟩, fun h hI => ⟨rb_sF h 49 7 0, ?_, thr_0 h, M_ref hI⟩⟩
      · have q := hI.2.2.2.1
        show (fB_row (nI k) h).map (fun r => (r, h)) = _
        unfold fB_row fB_row_0
        rw [if_neg (nI_pos (by omega)), q.1, if_neg (nI_ge c (by omega)), if_pos (show nI k < (25 : Int32) from nI_lt (b := 25) (by omega) (by omega)), if_neg (oob_n (show k < 25 by omega) (by omega)), cl_n (by omega), q.2 k c]
        rfl
      · have q := (IM_thr hI).2.2.2.1
        unfold fM_row fM_row_0
        have e1 : rb_hF (rb_sF h 49 7 0) 49 6 - 1 = nI ((zT σ).length - 1) := by rw [q.1]; exact nI_sub (b := 1) (by omega)
        rw [M_in_y (n := (zT σ).length - 1) (show k ≤ (zT σ).length - 1 by omega) (by omega) e1, if_pos rfl, if_neg (oob_n (show k < 16 by omega) (by omega)), cl_n (by omega), q.2 k c]
    · refine Or.inr ⟨fun h hI => Or.inr ⟨nI_pos (by omega), ?_⟩, fun h hI => ?_⟩
      · rw [hI.2.2.2.1.1]
        exact nI_le (by omega) (by omega)
      · obtain ⟨h', a1, a2, a3, a4⟩ := M_lostR hI
        have q := (IM_thr hI).2.2.2.1
        have no : fM_in (nI k) 0 (rb_hF (rb_sF h 49 7 0) 49 6 - 1) = false := by
          rw [q.1]
          unfold fM_in fM_in_0
          rw [if_neg (nI_pos (by omega))]
          by_cases z : (zT σ).length = 0
          · rw [z, if_pos (show nI 0 - 1 < nI k from Int32.lt_of_lt_of_le (show nI 0 - 1 < (0 : Int32) by decide) (nI_pos' (by omega)))]
          · rw [show nI (zT σ).length - 1 = nI ((zT σ).length - 1) from nI_sub (b := 1) (by omega), if_pos (nI_lt (by omega) (by omega))]
        unfold fM_row fM_row_0
        rw [no, if_neg (by decide), a1]
        exact ⟨_, h', rfl, a2, a3, a4⟩
  · have neg : x < 0 := by
      rcases hx with hx | ⟨-, hx⟩
      · exact hx
      · have m : Int32.maxValue.toInt = 2147483647 := by decide
        have hm := x.toInt_le
        have : x ≤ nI 2147483647 := by
          rw [Int32.le_iff_toInt_le, nI_toInt (by omega)]
          omega
        exact absurd this (Int32.not_le.mpr hx)
    refine Or.inr ⟨fun h hI => Or.inl neg, fun h hI => ?_⟩
    obtain ⟨h', a1, a2, a3, a4⟩ := M_lostR hI
    have no : fM_in x 0 (rb_hF (rb_sF h 49 7 0) 49 6 - 1) = false := by
      unfold fM_in fM_in_0
      rw [if_pos neg]
    unfold fM_row fM_row_0
    rw [no, if_neg (by decide), a1]
    exact ⟨_, h', rfl, a2, a3, a4⟩
theorem O_square (x : Int32) : rb_opT (fun h => (fB_square x h).map fun r => (r, h)) (fM_square x) (fun _ => fB_isSquare x = false) := by
  intro σ hσ
  have hW := hσ.1
  have h8 := hW.1
  rcases sq_or x 25 with ⟨s, hs, rfl⟩ | hx
  · refine Or.inl ⟨nI (if who (zB σ) s < bN (zB σ) then who (zB σ) s else 8), fun h hI => ⟨h, ?_, C_ref hI⟩, fun h hI => ⟨rb_sF h 49 7 0, ?_, thr_0 h, M_ref hI⟩⟩
    · show (fB_square (nI s) h).map (fun r => (r, h)) = _
      unfold fB_square fB_square_0
      rw [B_isSquare_y hs, if_pos rfl, S_who hI.1 hW hs]
      rfl
    · have R := (IM_thr hI).1
      unfold fM_square fM_square_0
      rw [M_isSquare_y hs, if_pos rfl, M_on R hW (by omega), Option.bind_some]
      by_cases c : who (zB σ) s < bN (zB σ)
      · rw [if_pos c, if_neg (fun z => nI_pos (show who (zB σ) s < 2 ^ 31 by omega) (by rw [z]; decide)), Option.bind_some, if_pos c]
      · rw [if_neg c, if_pos rfl, if_neg c]
        rfl
  · refine Or.inr ⟨fun h hI => B_isSquare_n hx, fun h hI => ?_⟩
    obtain ⟨h', a1, a2, a3, a4⟩ := M_lostR hI
    unfold fM_square fM_square_0
    rw [M_isSquare_n hx, if_neg (by decide), a1]
    exact ⟨_, h', rfl, a2, a3, a4⟩
