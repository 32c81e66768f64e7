theorem O_piece (x y : Int32) : rb_opT (fB_piece x y) (fM_piece x y) (fun h => fS_has 94 x h = false ∨ (fS_has 94 x h = true ∧ ∀ k, k < 5 → y ≠ nI k)) := by
  intro σ hσ
  have hW := hσ.1
  have h8 := hW.1
  rcases sq_or x (bN (zB σ)) with ⟨p, hp, rfl⟩ | hx
  · have hw := hW.2.2.1 p hp
    rcases sq_or y 5 with ⟨k, hk, rfl⟩ | hy
    · have mi : fM_in (nI k) 0 4 = true := M_in_y (n := 4) (by omega) (by omega) rfl
      have quiet : ∀ r, (∀ h, IC h σ → fB_piece (nI p) (nI k) h = some (r, h)) → (∀ h, IM h σ → fM_piece (nI p) (nI k) h = some (r, rb_sF h 49 7 0)) → ∃ r, (∀ h, IC h σ → ∃ h', fB_piece (nI p) (nI k) h = some (r, h') ∧ IC h' σ ∧ Ag cC h h') ∧ ∀ h, IM h σ → ∃ h', fM_piece (nI p) (nI k) h = some (r, h') ∧ rb_hF h' 49 7 = 0 ∧ IM h' σ ∧ Ag cM h h' :=
        fun r c m => ⟨r, fun h hI => ⟨h, c h hI, C_ref hI⟩, fun h hI => ⟨_, m h hI, thr_0 h, M_ref hI⟩⟩
      rcases (show k = 0 ∨ k = 1 ∨ k = 2 ∨ k = 3 ∨ k = 4 by omega) with e | e | e | e | e <;> subst e
      · refine Or.inl (quiet (nI (bK (zB σ) p)) (fun h hI => ?_) (fun h hI => ?_))
        · unfold fB_piece fB_piece_0
          rw [S_has_y hI.1 hW hp, if_pos rfl, if_pos (show nI 0 = (0 : Int32) from rfl), if_neg (oob_n (show p < 8 by omega) (by omega)), cl_n (by omega), (RS94 hI.1 hp).1]
        · have R := (IM_thr hI).1
          unfold fM_piece fM_piece_0
          rw [M_isPiece_y R hW hp, if_pos rfl, mi, if_pos rfl, if_pos (show nI 0 = (0 : Int32) from rfl), if_neg (oob_n (show p < 27 by omega) (by omega)), cl_n (by omega), (R.2.2.2.2 p hp).1]
      · refine Or.inl (quiet (nI (bS (zB σ) p)) (fun h hI => ?_) (fun h hI => ?_))
        · unfold fB_piece fB_piece_0
          rw [S_has_y hI.1 hW hp, if_pos rfl, if_neg (show ¬ nI 1 = (0 : Int32) from by decide), if_pos (show nI 1 = (1 : Int32) from rfl), if_neg (oob_n (show p < 8 by omega) (by omega)), cl_n (by omega), (RS94 hI.1 hp).2.1]
        · have R := (IM_thr hI).1
          unfold fM_piece fM_piece_0
          rw [M_isPiece_y R hW hp, if_pos rfl, mi, if_pos rfl, if_neg (show ¬ nI 1 = (0 : Int32) from by decide), if_pos (show nI 1 = (1 : Int32) from rfl), if_neg (oob_n (show p < 8 by omega) (by omega)), cl_n (by omega), (R.2.2.2.2 p hp).2.1]
      · refine Or.inl (quiet (nI (bP (zB σ) p)) (fun h hI => ?_) (fun h hI => ?_))
        · unfold fB_piece fB_piece_0
          rw [S_has_y hI.1 hW hp, if_pos rfl, if_neg (show ¬ nI 2 = (0 : Int32) from by decide), if_neg (show ¬ nI 2 = (1 : Int32) from by decide), if_pos (show nI 2 = (2 : Int32) from rfl), if_neg (oob_n (show p < 8 by omega) (by omega)), cl_n (by omega), (RS94 hI.1 hp).2.2.1]
        · have R := (IM_thr hI).1
          unfold fM_piece fM_piece_0
          rw [M_isPiece_y R hW hp, if_pos rfl, mi, if_pos rfl, if_neg (show ¬ nI 2 = (0 : Int32) from by decide), if_neg (show ¬ nI 2 = (1 : Int32) from by decide), if_pos (show nI 2 = (2 : Int32) from rfl), nI8, if_neg (oob_n (show 8 + p < 27 by omega) (by omega)), cl_n (by omega), (R.2.2.2.2 p hp).2.2.1]
      · refine Or.inl (quiet (nI (bU (zB σ) p)) (fun h hI => ?_) (fun h hI => ?_))
        · unfold fB_piece fB_piece_0
          rw [S_has_y hI.1 hW hp, if_pos rfl, if_neg (show ¬ nI 3 = (0 : Int32) from by decide), if_neg (show ¬ nI 3 = (1 : Int32) from by decide), if_neg (show ¬ nI 3 = (2 : Int32) from by decide), if_pos (show nI 3 = (3 : Int32) from rfl), if_neg (oob_n (show p < 8 by omega) (by omega)), cl_n (by omega), (RS94 hI.1 hp).2.2.2]
        · have R := (IM_thr hI).1
          unfold fM_piece fM_piece_0
          rw [M_isPiece_y R hW hp, if_pos rfl, mi, if_pos rfl, if_neg (show ¬ nI 3 = (0 : Int32) from by decide), if_neg (show ¬ nI 3 = (1 : Int32) from by decide), if_neg (show ¬ nI 3 = (2 : Int32) from by decide), if_pos (show nI 3 = (3 : Int32) from rfl), nI16, if_neg (oob_n (show 16 + p < 27 by omega) (by omega)), cl_n (by omega), (R.2.2.2.2 p hp).2.2.2]
      · refine Or.inl ⟨nI (dueN (zR σ) (zB σ) p), fun h hI => ?_, fun h hI => ?_⟩
        · obtain ⟨h1, a1, a2⟩ := S_due (o := 94) (ru := 5) hI.1 hW hI.2.1 (by decide) hp
          unfold fB_piece fB_piece_0
          rw [S_has_y hI.1 hW hp, if_pos rfl, if_neg (show ¬ nI 4 = (0 : Int32) from by decide), if_neg (show ¬ nI 4 = (1 : Int32) from by decide), if_neg (show ¬ nI 4 = (2 : Int32) from by decide), if_neg (show ¬ nI 4 = (3 : Int32) from by decide), if_pos (show nI 4 = (4 : Int32) from rfl), a1]
          exact ⟨h1, rfl, C_scr hI a2⟩
        · have R := (IM_thr hI).1
          unfold fM_piece fM_piece_0
          rw [M_isPiece_y R hW hp, if_pos rfl, mi, if_pos rfl, if_neg (show ¬ nI 4 = (0 : Int32) from by decide), if_neg (show ¬ nI 4 = (1 : Int32) from by decide), if_neg (show ¬ nI 4 = (2 : Int32) from by decide), if_neg (show ¬ nI 4 = (3 : Int32) from by decide), M_isOut R hW hp, Option.bind_some]
          unfold dueN
          by_cases c : bP (zB σ) p = 25
          · rw [if_pos (decide_eq_true c), if_pos c]
            exact ⟨_, rfl, thr_0 h, M_ref hI⟩
          · obtain ⟨h1, a1, a2⟩ := M_rentOf (a := 50) R hW (IM_thr hI).2.1 hp (show bP (zB σ) p < 25 by omega) (by decide) (by decide) (by decide)
            rw [if_neg (by rw [decide_eq_false c]; decide), if_neg c, nI8, if_neg (oob_n (show 8 + p < 27 by omega) (by omega)), cl_n (by omega), (R.2.2.2.2 p hp).2.2.1, a1]
            exact ⟨h1, rfl, M_scr hI a2⟩
    · refine Or.inr ⟨fun h hI => Or.inr ⟨S_has_y hI.1 hW hp, hy⟩, fun h hI => ?_⟩
      obtain ⟨h', a1, a2, a3, a4⟩ := M_lostR hI
      have R := (IM_thr hI).1
      have no : fM_in y 0 4 = false := by
        rcases rg_or y (n := 4) (by omega) with ⟨k, hk, rfl⟩ | hz
        · exact absurd rfl (hy k (by omega))
        · exact M_in_no (M := 4) hz
      unfold fM_piece fM_piece_0 fM_piece_22
      rw [M_isPiece_y R hW hp, if_pos rfl, no, if_neg (by decide), a1]
      exact ⟨_, h', rfl, a2, a3, a4⟩
  · refine Or.inr ⟨fun h hI => Or.inl (S_has_n hI.1 hW hx), fun h hI => ?_⟩
    obtain ⟨h', a1, a2, a3, a4⟩ := M_lostR hI
    have R := (IM_thr hI).1
    unfold fM_piece fM_piece_0 fM_piece_22
    rw [M_isPiece_n R hW hx, if_neg (by decide), a1]
    exact ⟨_, h', rfl, a2, a3, a4⟩
