/-! later, when, needs -/
theorem C_trial {h : rb_H} {σ : sSt} (hσ : WS σ) (hI : IC h σ) : ∃ h', fS_copyFrom 106 94 h = some h' ∧ RS h' 106 (zB σ) ∧ RuC h' 5 (zR σ) ∧ RS h' 94 (zB σ) ∧ Ag fC9 h h' := by
  obtain ⟨h', a1, a2, a3⟩ := S_copyFrom (o := 106) hI.1 hσ.1 (by omega) (by decide)
  exact ⟨h', a1, a2, RuCn_ag hI.2.1 a3 (by decide), RSn_ag hI.1 a3 (by decide), AgS (by decide +kernel) a3⟩
theorem M_then {h : rb_H} {σ : sSt} (hσ : WS σ) (hI : IM h σ) : ∃ h', fM_lay 50 60 0 h = some h' ∧ RM h' 60 (zB σ) ∧ RuM h' (zR σ) ∧ RM h' 50 (zB σ) ∧ Ag fM9 h h' := by
  obtain ⟨h', a1, a2, a3⟩ := M_layB (a := 50) (b := 60) hI.1 hσ.1 (by decide) (by decide) (by rfl)
  exact ⟨h', a1, a2, RuMn_ag hI.2.1 a3 (by decide), RMn_ag hI.1 a3 (by decide), AgS (by decide +kernel) a3⟩
theorem fC9_0 {h h' : rb_H} (hA : Ag fC9 h h') : Ag fC0 h h' := AgS (by decide +kernel) hA
theorem fM9_0 {h h' : rb_H} (hA : Ag fM9 h h') : Ag fM0 h h' := AgS (by decide +kernel) hA
theorem O_later (x y : Int32) : rb_op (fB_later x y) (fM_later x y) := by
  refine rb_op_of (fun σ hσ => ?_)
  have hW := hσ.1
  have h8 := hW.1
  rcases sq_or x (bN (zB σ)) with ⟨p, hp, rfl⟩ | hx
  · rcases rg_or y (n := 60) (by omega) with ⟨n, hn, rfl⟩ | hy
    · have i1 : fM_in (nI n) 0 60 = true := M_in_y hn (by omega) rfl
      have l60 : nI n ≤ (60 : Int32) := nI_le (b := 60) hn (by omega)
      by_cases ho : bP (zB σ) p = 25
      · refine at_refuse hσ (-2) (fun h hI => ?_) (fun h hI => ?_)
        · unfold fB_later fB_later_0
          rw [S_has_y hI.1 hW hp, if_pos rfl, if_neg (nI_pos (by omega)), if_pos l60, S_stands_y hI.1 hW hp]
          simp [ho]
        · unfold fM_later fM_later_0
          rw [M_isPiece_y hI.1 hW hp, if_pos rfl, i1, if_pos rfl, M_isOut hI.1 hW hp]
          simp [ho]
      · generalize hE : qdn (zR σ) (zB σ) n = E
        have hWE : WF E := by rw [← hE]; exact qdn_WF hW n
        have hNE : bN E = bN (zB σ) := by rw [← hE]; exact qdn_N _ _ _
        have hpE : p < bN E := by rw [hNE]; exact hp
        refine at_row hσ (if bP E p = 25 then 100 else nI (bU E p)) [(bits (fun i => decide (bP E i ≠ 25)) (bN E)).toInt64, (nI (sumU E (fun i => decide (bS E i = 0)) (bN E)) + nI (sumU E (fun i => decide (bS E i = 1)) (bN E))).toInt64] (by simp) (fun h hI => ?_) (fun h0 h e hI => ?_)
        · obtain ⟨h1, a1, a2, a3, a5, a4⟩ := C_trial hσ hI
          obtain ⟨h2, b1, b2, b3⟩ := S_live a2 hW a3 (by decide) (by decide) (by omega) (n := n) (by omega)
          rw [hE] at b2
          obtain ⟨h3, c1, c2, c3⟩ := C_tell1 (bits (fun i => decide (bP E i ≠ 25)) (bN E)).toInt64 (nI (sumU E (fun i => decide (bS E i = 0)) (bN E)) + nI (sumU E (fun i => decide (bS E i = 1)) (bN E))).toInt64 h2
          have R3 : RS h3 106 E := RS_ag b2 c3 (by decide) (fun _ hx => NL_at (A := sIds 106) (by decide) hx)
          have p0 : fS_pursesOf 106 0 h2 = _ := S_pursesOf b2 hWE (t := 0) (by omega)
          have p1 : fS_pursesOf 106 1 h2 = _ := S_pursesOf b2 hWE (t := 1) (by omega)
          have q : rb_hI h3 110 p = nI (bU E p) := (R3.2.2.2.2 p hpE).2.2.2
          unfold fB_later fB_later_0
          rw [S_has_y hI.1 hW hp, if_pos rfl, if_neg (nI_pos (by omega)), if_pos l60, S_stands_y hI.1 hW hp]
          simp only [Option.bind_some, decide_eq_true_eq, if_pos ho, a1, b1, S_standingPieces b2 hWE, p0, p1, c1, S_stands_y R3 hWE hpE, if_neg (oob_n (show p < 8 by omega) (by omega)), cl_n (show p < 2 ^ 31 by omega), q]
          refine ⟨h3, ?_, c2, Ag_trans (fC9_0 a4) (Ag_trans (AgS (by decide +kernel) b3) (AgS (by decide +kernel) c3))⟩
          by_cases c : bP E p = 25
          · rw [if_neg (fun z => z c), if_pos c]
          · rw [if_pos c, if_neg c]
        · obtain ⟨h1, a1, a2, a3, a5, a4⟩ := M_then hσ hI
          obtain ⟨h2, b1, b2, b3, b4⟩ := M_goQuarters a2 hW a3 (by unfold mA; omega) (n := n) (by omega)
          rw [hE] at b2
          have R2 : RM (rb_sF h2 49 6 0) 60 E := RM_ag (L := [1006]) b2 (Ag_sF (by decide) (Ag_refl _ _)) (fun _ hx => NL_at (A := [1002, 60, 51]) (by decide) hx)
          obtain ⟨h3, c1, c2, c3⟩ := M_tellA (bits (fun i => decide (bP E i ≠ 25)) (bN E)).toInt64 h2
          have R3 : RM h3 60 E := RM_ag b2 c3 (fun _ hx => NL_at (A := [1002, 60, 51]) (by decide) hx)
          obtain ⟨h4, d1, d2, d3⟩ := M_tell c2 (by simp) (nI (sumU E (fun i => decide (bS E i = 0)) (bN E)) + nI (sumU E (fun i => decide (bS E i = 1)) (bN E))).toInt64
          have R4 : RM h4 60 E := RM_ag R3 d3 (fun _ hx => NL_at (A := [1002, 60, 51]) (by decide) hx)
          have q := R4.2.2.2.2 p hpE
          unfold fM_later fM_later_0
          rw [← e, M_isPiece_y hI.1 hW hp, if_pos rfl, i1, if_pos rfl, M_isOut hI.1 hW hp]
          simp only [Option.bind_some, decide_eq_true_eq, if_neg ho, a1, b1, M_inBits R2 hWE, c1, M_purses2 R3 hWE, d1, M_isOut R4 hWE hpE, nI16, if_neg (oob_n (show 16 + p < 27 by omega) (by omega)), cl_n (show 16 + p < 2 ^ 31 by omega), q.2.2.2]
          refine ⟨h4, ?_, d2, Ag_trans (fM9_0 a4) (Ag_trans (AgS (by decide +kernel) b4) (AgS (by decide +kernel) (Ag_trans c3 d3)))⟩
          by_cases c : bP E p = 25
          · rw [if_pos c, if_pos c]
          · rw [if_neg c, if_neg c]
    · refine at_refuse hσ (-1) (fun h hI => ?_) (fun h hI => ?_)
      · unfold fB_later fB_later_0
        rw [S_has_y hI.1 hW hp, if_pos rfl]
        rcases hy with hy | ⟨hy, hy2⟩
        · rw [if_pos hy]
        · rw [if_neg hy, if_neg (show ¬ y ≤ (60 : Int32) from Int32.not_le.mpr hy2)]
      · unfold fM_later fM_later_0
        rw [M_isPiece_y hI.1 hW hp, if_pos rfl, M_in_no (M := 60) hy, if_neg (by decide)]
  · refine at_refuse hσ (-1) (fun h hI => ?_) (fun h hI => ?_)
    · unfold fB_later fB_later_0
      rw [S_has_n hI.1 hW hx, if_neg (by decide)]
    · unfold fM_later fM_later_0
      rw [M_isPiece_n hI.1 hW hx, if_neg (by decide)]
theorem stand_qdn {ρ : sRu} {B : sBd} {p : Nat} (h0 : bP B p ≠ 25) : ∀ n, (∀ k, k < n → goesOutB ρ (qdn ρ B k) p = false) → bP (qdn ρ B n) p ≠ 25
  | 0, _ => h0
  | n + 1, h => by
    show (if goesOutB ρ (qdn ρ B n) p = true then 25 else bP (qdn ρ B n) p) ≠ 25
    rw [h n (Nat.lt_succ_self n), if_neg (by decide)]
    exact stand_qdn h0 n (fun k hk => h k (by omega))
set_option maxHeartbeats 4000000 in
theorem O_when (x : Int32) : rb_op (fB_when x) (fM_when x) := by
  refine rb_op_of (fun σ hσ => ?_)
  have hW := hσ.1
  have h8 := hW.1
  rcases sq_or x (bN (zB σ)) with ⟨p, hp, rfl⟩ | hx
  · by_cases ho : bP (zB σ) p = 25
    · refine at_refuse hσ (-3) (fun h hI => ?_) (fun h hI => ?_)
      · unfold fB_when fB_when_0
        rw [S_has_y hI.1 hW hp, if_pos rfl, S_stands_y hI.1 hW hp]
        simp [ho]
      · unfold fM_when fM_when_0
        rw [M_isPiece_y hI.1 hW hp, if_pos rfl, M_isOut hI.1 hW hp]
        simp [ho]
    · generalize hB : zB σ = B at hW hp ho h8
      generalize hρ : zR σ = ρ
      have hpn : ∀ k, p < bN (qdn ρ B k) := fun k => by rw [qdn_N]; exact hp
      have hw60 := fst1_le (fun k => goesOutB ρ (qdn ρ B k) p) 60
      generalize hw : fst1 (fun k => goesOutB ρ (qdn ρ B k) p) 60 = w at hw60
      have no : ∀ k, k < w → goesOutB ρ (qdn ρ B k) p = false := fun k hk => fst1_no (p := fun k => goesOutB ρ (qdn ρ B k) p) (n := 60) (by rw [hw]; exact hk)
      have st : ∀ k, k ≤ w → bP (qdn ρ B k) p ≠ 25 := fun k hk => stand_qdn ho k (fun j hj => no j (by omega))
      have stC : ∀ {o : Nat} {h : rb_H}, RS h o (qdB ρ (qdn ρ B w)) → fS_stands o (nI p) h = some (!goesOutB ρ (qdn ρ B w) p) := by
        intro o h hR
        rw [S_stands_y (B := qdn ρ B (w + 1)) hR (qdn_WF hW (w + 1)) (hpn (w + 1))]
        congr 1
        show decide ((if goesOutB ρ (qdn ρ B w) p = true then 25 else bP (qdn ρ B w) p) ≠ 25) = _
        cases hg : goesOutB ρ (qdn ρ B w) p
        · rw [if_neg (by decide)]
          simp [st w (Nat.le_refl _)]
        · rw [if_pos rfl]
          decide
      -- the class's round
      have cstep : ∀ (k : Nat) (s : Int32 × rb_H), k < w → (s.1 = nI (k + 1) ∧ RS s.2 106 (qdn ρ B k) ∧ RuC s.2 5 ρ ∧ True) → ∃ s', fB_when_40b (nI p) s.1 s.2 = some (.inl s') ∧ (s'.1 = nI (k + 1 + 1) ∧ RS s'.2 106 (qdn ρ B (k + 1)) ∧ RuC s'.2 5 ρ ∧ True) ∧ Ag [7, 10, 106, 109, 110, 111] s.2 s'.2 := by
        rintro k ⟨v, h1⟩ hk ⟨e, r, u, -⟩
        dsimp only at e r u ⊢
        subst e
        obtain ⟨h2, q1, q2, q3⟩ := S_quarterDay r (qdn_WF hW k) u (by decide) (by decide) (by omega)
        have r2 : RS h2 106 (qdn ρ B (k + 1)) := q2
        unfold fB_when_40b
        rw [if_neg (show ¬ (60 : Int32) < nI (k + 1) from nI_nlt (a := 60) (by omega) (by omega)), S_standing r (qdn_WF hW k)]
        simp only [Option.bind_some, q1, S_stands_y r2 (qdn_WF hW (k + 1)) (hpn (k + 1)), nI_1, decide_eq_true_eq]
        rw [if_pos (st (k + 1) (by omega))]
        exact ⟨_, rfl, ⟨rfl, r2, RuC_ag u q3 (by decide) (by decide), trivial⟩, q3⟩
      have mstep : ∀ (k : Nat) (s : Int32 × rb_H), k < w → (s.1 = nI (k + 1) ∧ RM s.2 60 (qdn ρ B k) ∧ RuM s.2 ρ ∧ True) → ∃ s', fM_when_43b (nI p) s.1 s.2 = some (.inl s') ∧ (s'.1 = nI (k + 1 + 1) ∧ RM s'.2 60 (qdn ρ B (k + 1)) ∧ RuM s'.2 ρ ∧ True) ∧ Ag (60 :: 1024 :: mR) s.2 s'.2 := by
        rintro k ⟨v, h1⟩ hk ⟨e, r, u, -⟩
        dsimp only at e r u ⊢
        subst e
        obtain ⟨h2, q1, q2, q3, q4⟩ := M_goQuarter r (qdn_WF hW k) u (by unfold mA; omega)
        have hb : fM_has (bits (goesOutB ρ (qdn ρ B k)) (bN (qdn ρ B k))) (nI p) = false := by
          have := hpn k
          have := (qdn_WF (ρ := ρ) hW k).1
          rw [has_bt _ (by omega), bits_bt _ _ (by omega) p (by omega), no k hk]
          simp
        unfold fM_when_43b
        rw [if_neg (show ¬ (60 : Int32) < nI (k + 1) from nI_nlt (a := 60) (by omega) (by omega)), q1]
        simp only [Option.bind_some, hb, nI_1]
        exact ⟨_, rfl, ⟨rfl, q2, RuM_ag u q4 (fun _ hx => NL_at (A := [1016, 2001, 55, 56]) (by decide) hx), trivial⟩, q4⟩
      by_cases hlt : w < 60
      · have hg : goesOutB ρ (qdn ρ B w) p = true := by
          have := fst1_is (p := fun k => goesOutB ρ (qdn ρ B k) p) (n := 60) (by rw [hw]; exact hlt)
          rw [hw] at this
          exact this
        have hwl : ¬ (60 : Int32) < nI (w + 1) := nI_nlt (a := 60) (by omega) (by omega)
        refine at_row hσ (nI (w + 1)) [(nI (fb_ct (goesOutB ρ (qdn ρ B w)) (bN (qdn ρ B w)))).toInt64] (by simp) (fun h hI => ?_) (fun h0 h e hI => ?_)
        · obtain ⟨h1, a1, a2, a3, a5, a4⟩ := C_trial hσ hI
          rw [hB] at a2
          rw [hρ] at a3
          have R94 := hI.1
          rw [hB] at R94
          have loop : ∃ x, rb_iter rb_fuel (fun s => fB_when_40b (nI p) s.1 s.2) ((1 : Int32), h1) = some x ∧ ∃ y, x = Sum.inl y ∧ (y.1 = nI (w + 1) ∧ y.2.1 = nI (stN (qdn ρ B w)) ∧ RS y.2.2 106 (qdB ρ (qdn ρ B w)) ∧ Ag [7, 10, 106, 109, 110, 111] h1 y.2.2) := by
            refine rb_runP (fun k s => (s.1 = nI (k + 1) ∧ RS s.2 106 (qdn ρ B k) ∧ RuC s.2 5 ρ ∧ True) ∧ Ag [7, 10, 106, 109, 110, 111] h1 s.2) _ w ⟨⟨rfl, a2, a3, trivial⟩, Ag_refl _ _⟩ (by omega) ?_ ?_
            · rintro k s hk ⟨i1, i2⟩
              obtain ⟨s', z1, z2, z3⟩ := cstep k s hk i1
              exact ⟨s', z1, z2, Ag_trans i2 z3⟩
            · rintro ⟨v, h2⟩ ⟨⟨e, r, u, -⟩, i2⟩
              dsimp only at e r u i2 ⊢
              subst e
              obtain ⟨h3, q1, q2, q3⟩ := S_quarterDay r (qdn_WF hW w) u (by decide) (by decide) (by omega)
              unfold fB_when_40b
              rw [if_neg hwl, S_standing r (qdn_WF hW w)]
              simp only [Option.bind_some, q1, stC q2, hg]
              exact ⟨_, rfl, _, rfl, rfl, rfl, q2, Ag_trans i2 q3⟩
          obtain ⟨x, m1, y, rfl, m2, m3, m4, m5⟩ := loop
          obtain ⟨h2, b1, b2, b3⟩ := C_tell2 (nI (fb_ct (goesOutB ρ (qdn ρ B w)) (bN (qdn ρ B w)))).toInt64 y.2.2
          have hst := stN_qd ρ (qdn ρ B w)
          have hst2 : fS_standing 106 y.2.2 = some (nI (stN (qdB ρ (qdn ρ B w)))) := S_standing m4 (qdn_WF hW (w + 1))
          have hsub : nI (stN (qdn ρ B w)) - nI (stN (qdB ρ (qdn ρ B w))) = nI (fb_ct (goesOutB ρ (qdn ρ B w)) (bN (qdn ρ B w))) := by
            rw [nI_sub (by omega)]
            congr 1
            omega
          unfold fB_when fB_when_0
          rw [S_has_y R94 hW hp, if_pos rfl, S_stands_y R94 hW hp]
          simp only [Option.bind_some, decide_eq_true_eq, if_pos ho, a1, m1, Sum.elim_inl, hst2, m2, m3, hsub, b1]
          exact ⟨h2, rfl, b2, Ag_trans (fC9_0 a4) (Ag_trans (AgS (by decide +kernel) m5) (AgS (by decide +kernel) b3))⟩
        · obtain ⟨h1, a1, a2, a3, a5, a4⟩ := M_then hσ hI
          rw [hB] at a2
          rw [hρ] at a3
          have R50 := hI.1
          rw [hB] at R50
          have loop : ∃ x, rb_iter rb_fuel (fun s => fM_when_43b (nI p) s.1 s.2) ((1 : Int32), h1) = some x ∧ ∃ y, x = Sum.inl y ∧ (y.1 = nI (w + 1) ∧ y.2.1 = bits (goesOutB ρ (qdn ρ B w)) (bN (qdn ρ B w)) ∧ Ag (60 :: 1024 :: mR) h1 y.2.2) := by
            refine rb_runP (fun k s => (s.1 = nI (k + 1) ∧ RM s.2 60 (qdn ρ B k) ∧ RuM s.2 ρ ∧ True) ∧ Ag (60 :: 1024 :: mR) h1 s.2) _ w ⟨⟨rfl, a2, a3, trivial⟩, Ag_refl _ _⟩ (by omega) ?_ ?_
            · rintro k s hk ⟨i1, i2⟩
              obtain ⟨s', z1, z2, z3⟩ := mstep k s hk i1
              exact ⟨s', z1, z2, Ag_trans i2 z3⟩
            · rintro ⟨v, h2⟩ ⟨⟨e, r, u, -⟩, i2⟩
              dsimp only at e r u i2 ⊢
              subst e
              obtain ⟨h3, q1, q2, q3, q4⟩ := M_goQuarter r (qdn_WF hW w) u (by unfold mA; omega)
              have hb : fM_has (bits (goesOutB ρ (qdn ρ B w)) (bN (qdn ρ B w))) (nI p) = true := by
                have := hpn w
                have := (qdn_WF (ρ := ρ) hW w).1
                rw [has_bt _ (by omega), bits_bt _ _ (by omega) p (by omega), hg]
                simp [hpn w]
              unfold fM_when_43b
              rw [if_neg hwl, q1]
              simp only [Option.bind_some, hb]
              exact ⟨_, rfl, _, rfl, rfl, rfl, Ag_trans i2 q4⟩
          obtain ⟨x, m1, y, rfl, m2, m3, m4⟩ := loop
          obtain ⟨h2, b1, b2, b3⟩ := M_tellA (nI (fb_ct (goesOutB ρ (qdn ρ B w)) (bN (qdn ρ B w)))).toInt64 y.2.2
          have hb8 := (qdn_WF (ρ := ρ) hW w).1
          unfold fM_when fM_when_0
          rw [← e, M_isPiece_y R50 hW hp, if_pos rfl, M_isOut R50 hW hp]
          simp only [Option.bind_some, decide_eq_true_eq, if_neg ho, a1, m1, Sum.elim_inl, m2, m3, rb_lt, bc_bits _ (show bN (qdn ρ B w) ≤ 32 by omega), b1]
          exact ⟨h2, rfl, b2, Ag_trans (fM9_0 a4) (Ag_trans (AgS (by decide +kernel) m4) (AgS (by decide +kernel) b3))⟩
      · have hw60' : w = 60 := by omega
        have c60 : (60 : Int32) < nI (w + 1) := by rw [hw60']; decide
        refine at_quiet hσ (-2) (fun h hI => ?_) (fun h0 h e hI => ?_)
        · obtain ⟨h1, a1, a2, a3, a5, a4⟩ := C_trial hσ hI
          rw [hB] at a2
          rw [hρ] at a3
          have R94 := hI.1
          rw [hB] at R94
          have loop : ∃ x, rb_iter rb_fuel (fun s => fB_when_40b (nI p) s.1 s.2) ((1 : Int32), h1) = some x ∧ ∃ y, x = Sum.inr y ∧ Ag [7, 10, 106, 109, 110, 111] h1 y := by
            refine rb_runP (fun k s => (s.1 = nI (k + 1) ∧ RS s.2 106 (qdn ρ B k) ∧ RuC s.2 5 ρ ∧ True) ∧ Ag [7, 10, 106, 109, 110, 111] h1 s.2) _ w ⟨⟨rfl, a2, a3, trivial⟩, Ag_refl _ _⟩ (by omega) ?_ ?_
            · rintro k s hk ⟨i1, i2⟩
              obtain ⟨s', z1, z2, z3⟩ := cstep k s hk i1
              exact ⟨s', z1, z2, Ag_trans i2 z3⟩
            · rintro ⟨v, h2⟩ ⟨⟨e, r, u, -⟩, i2⟩
              dsimp only at e r u i2 ⊢
              subst e
              unfold fB_when_40b
              rw [if_pos c60]
              exact ⟨_, rfl, _, rfl, i2⟩
          obtain ⟨x, m1, y, rfl, m5⟩ := loop
          unfold fB_when fB_when_0
          rw [S_has_y R94 hW hp, if_pos rfl, S_stands_y R94 hW hp]
          simp only [Option.bind_some, decide_eq_true_eq, if_pos ho, a1, m1, Sum.elim_inr]
          exact ⟨_, rfl, Ag_trans a4 (AgS (by decide +kernel) m5)⟩
        · obtain ⟨h1, a1, a2, a3, a5, a4⟩ := M_then hσ hI
          rw [hB] at a2
          rw [hρ] at a3
          have R50 := hI.1
          rw [hB] at R50
          have loop : ∃ x, rb_iter rb_fuel (fun s => fM_when_43b (nI p) s.1 s.2) ((1 : Int32), h1) = some x ∧ ∃ y, x = Sum.inr y ∧ Ag (60 :: 1024 :: mR) h1 y := by
            refine rb_runP (fun k s => (s.1 = nI (k + 1) ∧ RM s.2 60 (qdn ρ B k) ∧ RuM s.2 ρ ∧ True) ∧ Ag (60 :: 1024 :: mR) h1 s.2) _ w ⟨⟨rfl, a2, a3, trivial⟩, Ag_refl _ _⟩ (by omega) ?_ ?_
            · rintro k s hk ⟨i1, i2⟩
              obtain ⟨s', z1, z2, z3⟩ := mstep k s hk i1
              exact ⟨s', z1, z2, Ag_trans i2 z3⟩
            · rintro ⟨v, h2⟩ ⟨⟨e, r, u, -⟩, i2⟩
              dsimp only at e r u i2 ⊢
              subst e
              unfold fM_when_43b
              rw [if_pos c60]
              exact ⟨_, rfl, _, rfl, i2⟩
          obtain ⟨x, m1, y, rfl, m4⟩ := loop
          unfold fM_when fM_when_0
          rw [← e, M_isPiece_y R50 hW hp, if_pos rfl, M_isOut R50 hW hp]
          simp only [Option.bind_some, decide_eq_true_eq, if_neg ho, a1, m1, Sum.elim_inr]
          exact ⟨_, rfl, Ag_trans a4 (AgS (by decide +kernel) m4)⟩
  · refine at_refuse hσ (-1) (fun h hI => ?_) (fun h hI => ?_)
    · unfold fB_when fB_when_0
      rw [S_has_n hI.1 hW hx, if_neg (by decide)]
    · unfold fM_when fM_when_0
      rw [M_isPiece_n hI.1 hW hx, if_neg (by decide)]
