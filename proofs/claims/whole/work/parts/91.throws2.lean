theorem C_scr {h h' : rb_H} {σ : sSt} (hI : IC h σ) (A : Ag [7, 10] h h') : IC h' σ ∧ Ag cC h h' := ⟨IC_ag hI A (by decide), AgS (by decide +kernel) A⟩
theorem M_scr {h h' : rb_H} {σ : sSt} (hI : IM h σ) (A : Ag [57, 1009, 1010, 1011, 1012, 1017, 2000] (rb_sF h 49 7 0) h') : rb_hF h' 49 7 = 0 ∧ IM h' σ ∧ Ag cM h h' := by
  refine ⟨(AgF A (by decide)).trans (thr_0 h), IM_ag (IM_thr hI) A (by decide), ?_⟩
  exact Ag_trans (AgS (by decide +kernel) (thr_ag h)) (AgS (by decide +kernel) A)
theorem O_rent (x y : Int32) : rb_opT (fB_rent x y) (fM_rent x y) (fun h => fS_stands 94 x h = some false ∨ (fS_stands 94 x h = some true ∧ fB_isSquare y = false)) := by
  intro σ hσ
  have hW := hσ.1
  have h8 := hW.1
  rcases sq_or x (bN (zB σ)) with ⟨p, hp, rfl⟩ | hx
  · by_cases c : bP (zB σ) p = 25
    · refine Or.inr ⟨fun h hI => Or.inl ?_, fun h hI => ?_⟩
      · rw [S_stands_y hI.1 hW hp, decide_eq_false (fun z => z c)]
      · obtain ⟨h', a1, a2, a3, a4⟩ := M_lostR hI
        have R := (IM_thr hI).1
        unfold fM_rent fM_rent_0 fM_rent_31
        rw [M_isPiece_y R hW hp, if_pos rfl, M_isOut R hW hp, Option.bind_some, if_pos (decide_eq_true c), a1]
        rcases sq_or y 25 with ⟨s, hs, rfl⟩ | hy
        · rw [M_isSquare_y hs, if_pos rfl]
          exact ⟨_, h', rfl, a2, a3, a4⟩
        · rw [M_isSquare_n hy, if_neg (by decide)]
          exact ⟨_, h', rfl, a2, a3, a4⟩
    · rcases sq_or y 25 with ⟨s, hs, rfl⟩ | hy
      · refine Or.inl ⟨nI (rentN (zR σ) (zB σ) p s (bQ (zB σ))), fun h hI => ?_, fun h hI => ?_⟩
        · obtain ⟨h1, a1, a2⟩ := S_rentAt (o := 94) (ru := 5) hI.1 hW hI.2.1 hp hs (by decide) (bQ (zB σ))
          unfold fB_rent fB_rent_0
          rw [S_stands_y hI.1 hW hp, Option.bind_some, if_pos (decide_eq_true c), B_isSquare_y hs, if_pos rfl, hI.1.2.2.1, a1]
          exact ⟨h1, rfl, C_scr hI a2⟩
        · have R := (IM_thr hI).1
          obtain ⟨h1, a1, a2⟩ := M_rentOf (a := 50) R hW (IM_thr hI).2.1 hp hs (by decide) (by decide) (by decide)
          unfold fM_rent fM_rent_0
          rw [M_isPiece_y R hW hp, if_pos rfl, M_isSquare_y hs, if_pos rfl, M_isOut R hW hp, Option.bind_some, if_neg (by rw [decide_eq_false c]; decide), a1]
          exact ⟨h1, rfl, M_scr hI a2⟩
      · refine Or.inr ⟨fun h hI => Or.inr ⟨?_, B_isSquare_n hy⟩, fun h hI => ?_⟩
        · rw [S_stands_y hI.1 hW hp, decide_eq_true c]
        · obtain ⟨h', a1, a2, a3, a4⟩ := M_lostR hI
          have R := (IM_thr hI).1
          unfold fM_rent fM_rent_0 fM_rent_31
          rw [M_isPiece_y R hW hp, if_pos rfl, M_isSquare_n hy, if_neg (by decide), a1]
          exact ⟨_, h', rfl, a2, a3, a4⟩
  · refine Or.inr ⟨fun h hI => Or.inl (S_stands_n hI.1 hW hx), fun h hI => ?_⟩
    obtain ⟨h', a1, a2, a3, a4⟩ := M_lostR hI
    have R := (IM_thr hI).1
    unfold fM_rent fM_rent_0 fM_rent_31
    rw [M_isPiece_n R hW hx, if_neg (by decide), a1]
    exact ⟨_, h', rfl, a2, a3, a4⟩
