/-! pieces -/
theorem M_layAll {h : rb_H} {B : sBd} {N n : Nat} (hR : RM h 50 (setN B N)) (ht : toldN h N n B) (h8 : N + n ≤ 8) : ∃ x, rb_iter rb_fuel (fun s => fM_pieces_91b (nI n) s.1 s.2) ((0 : Int32), h) = some x ∧ RM x 50 (setN B (N + n)) ∧ Ag [1002, 50, 51] h x := by
  refine rb_runP (fun k s => s.1 = nI k ∧ RM s.2 50 (setN B (N + k)) ∧ toldN s.2 N n B ∧ Ag [1002, 50, 51] h s.2) _ n ⟨rfl, hR, ht, Ag_refl _ _⟩ (by omega) ?_ ?_
  · rintro k ⟨v, g⟩ hk ⟨e, q1, q2, q3⟩
    dsimp only at e q1 q2 q3 ⊢
    subst e
    obtain ⟨h', a1, a2, a3, a4⟩ := M_layOne q1 q2 hk h8
    exact ⟨_, a1, rfl, a2, a3, Ag_trans q3 a4⟩
  · rintro ⟨v, g⟩ ⟨e, q1, q2, q3⟩
    dsimp only at e q1 q2 q3 ⊢
    subst e
    refine ⟨g, ?_, q1, q3⟩
    unfold fM_pieces_91b
    rw [if_pos (nI_le (Nat.le_refl _) (by omega))]
theorem min47 {a : Nat} (h : a < 2 ^ 31) : rb_min (nI a) 47 = nI (min a 47) := by
  unfold rb_min
  by_cases c : 47 < a
  · rw [if_pos (show (47 : Int32) < nI a from nI_lt (a := 47) c h), Nat.min_eq_right (by omega)]; rfl
  · rw [if_neg (show ¬ (47 : Int32) < nI a from fun z => c ((nI_ltI (a := 47) (by omega) h).mp z)), Nat.min_eq_left (by omega)]
theorem C_lines {h : rb_H} {X : List Nat} (hT : TXc h X) (hX : rp_X X 47) : fB_readLines h = (rb_iter rb_fuel (fun s => fB_readLines_23b (nI (min X.length 47)) 5 s.1 s.2) (nI (6 * 0), h)).bind (pcK (nI (min X.length 47))) := by
  unfold fB_readLines fB_readLines_0
  have := hX.1
  rw [len_shape, Option.bind_some, hT.1, min47 (by omega)]
  rfl
theorem RS_setN {h : rb_H} {B : sBd} {o : Nat} (hR : RS h o B) : RS h o (setN B (bN B)) := hR
theorem O_pieces : rb_op fB_pieces fM_pieces := by
  intro σ hσ
  have hW := hσ.1
  have hX := rp_X_of hσ (show 47 ≤ 80 by omega)
  have hl := hX.1
  by_cases c0 : (zX σ).length = 0
  · refine ⟨0, σ, hσ, fun h hI => ⟨h, ?_, C_ref hI⟩, fun h0 hI0 => ?_⟩
    · unfold fB_pieces fB_pieces_0
      rw [hI.2.2.1.1, c0, if_pos (by decide)]
    · have hI := IM_thr hI0
      obtain ⟨h1, b1, b2, b3, b4, b5⟩ := rp_begin hI.2.2.1 hl 47
      have e : yX σ [] = σ := by
        have : zX σ = [] := List.length_eq_zero_iff.mp c0
        rw [← this]
        rfl
      have I1 := IM_text hI b5 (by decide) b3
      rw [e] at I1
      refine ⟨h1, ?_, I1, Ag_trans (AgS (by decide +kernel) (thr_ag h0)) (AgS (by decide +kernel) b5)⟩
      unfold fM_pieces fM_pieces_0
      simp only [rb_lt]
      rw [show fM_beginText 47 (rb_sF h0 49 7 0) = h1 from b1, b4, c0, if_pos (by decide)]
  · have oo : onB (zB σ) (zB σ) 0 := ⟨rfl, fun _ _ => ⟨rfl, rfl, rfl, rfl⟩, rfl, rfl, rfl⟩
    have tt : ∀ h, toldN h (bN (zB σ)) 0 (zB σ) := fun h k hk => absurd hk (Nat.not_lt_zero _)
    have c1 : ¬ nI (zX σ).length = 0 := fun z => by have := (nI_eq (b := 0) (show (zX σ).length < 2 ^ 31 by omega) (by omega)).mp z; omega
    have j8 : bN (zB σ) + (8 - bN (zB σ)) = 8 := by have := hW.1; omega
    -- the class up to the reading
    have cls : ∀ h, IC h σ → ∃ h1, fS_copyFrom 106 94 h = some h1 ∧ RS h1 106 (zB σ) ∧ TXc h1 (zX σ) ∧ Ag (sIds 106) h h1 := fun h hI => by
      obtain ⟨h1, a1, a2, a3⟩ := S_copyFrom (o := 106) hI.1 hW (by omega) (by decide)
      exact ⟨h1, a1, a2, TXc_106 hI.2.2.1 a3, a3⟩
    rcases pc_loop hX hW (nI (min (zX σ).length 47)) (8 - bN (zB σ)) 0 (zB σ) j8 hW oo (by omega) with ⟨q, hq, hC, hM⟩ | ⟨n, B, n0, n1, n2, n3, hC, hM⟩
    · refine ⟨-1 - nI q, yX σ [], WS_cut hσ, fun h hI => ?_, fun h0 hI0 => ?_⟩
      · obtain ⟨h1, a1, a2, a3, a4⟩ := cls h hI
        obtain ⟨h2, b1, b2⟩ := hC h1 rb_fuel a3 a2 (by rw [rb_fuel_eq]; omega)
        obtain ⟨d1, d2, d3⟩ := C_empty (TXc_106 a3 b2) hl
        have A : Ag (1 :: sIds 106) h (rb_sF h2 1 1 0) := Ag_trans (AgS (by decide) (Ag_trans a4 b2)) (AgS (by decide) d3)
        refine ⟨rb_sF h2 1 1 0, ?_, IC_text hI A (by decide +kernel) d2, AgS (by decide +kernel) A⟩
        unfold fB_pieces fB_pieces_0
        rw [hI.2.2.1.1, if_neg c1, a1, Option.bind_some, C_lines a3 hX, b1, Option.bind_some, d1]
        simp only [rb_lt]
        rw [if_neg (nI_pos (by omega))]
      · have hI := IM_thr hI0
        obtain ⟨h1, b1, b2, b3, b4, b5⟩ := rp_begin hI.2.2.1 hl 47
        obtain ⟨x, h2, h3, d1, d2, d3, d4⟩ := hM h1 rb_fuel b2 (RMn_ag hI.1 b5 (by decide)) (tt h1) (by rw [rb_fuel_eq]; omega)
        have A : Ag (54 :: rdL) (rb_sF h0 49 7 0) h3 := Ag_trans (AgS (by decide) b5) (AgS (by decide) d4)
        refine ⟨h3, ?_, IM_text hI A (by decide) (TXm_e b3 d4 (by decide)), Ag_trans (AgS (by decide +kernel) (thr_ag h0)) (AgS (by decide +kernel) A)⟩
        unfold fM_pieces fM_pieces_0
        simp only [rb_lt]
        rw [show fM_beginText 47 (rb_sF h0 49 7 0) = h1 from b1, b4, if_neg c1, show rb_iter rb_fuel (fun s => fM_pieces_24b s.1 s.2.1 s.2.2) ((0 : Int32), (1 : Int32), h1) = _ from d1, Option.bind_some, d2]
        dsimp only
        rw [if_neg (by decide), d3]
    · have N8 : bN B ≤ 8 := n1.1
      have bn : bN B = bN (zB σ) + n := n2.1
      have alb : ∀ b, alB (zB σ) b → alB B b := fun b hb => ⟨by have := hb.1; omega, fun j hj => (hb.2 j hj).trans (n2.2.1 j (by have := hb.1; omega)).2.1.symm⟩
      refine ⟨nI n, yP (yB (yX σ []) B) [], ?_, fun h hI => ?_, fun h0 hI0 => ?_⟩
      · exact ⟨n1, ⟨by simp [zX, yP, yB, yX], fun c hc => nomatch hc⟩, hσ.2.2.1, ⟨by simp [zP, yP], fun b hb => nomatch hb⟩, fun i hi b hb => ⟨(hσ.2.2.2.2.1 i hi b hb).1, alb b (hσ.2.2.2.2.1 i hi b hb).2⟩, hσ.2.2.2.2.2.1, hσ.2.2.2.2.2.2⟩
      · obtain ⟨h1, a1, a2, a3, a4⟩ := cls h hI
        obtain ⟨h2, b1, b2, b3⟩ := hC h1 rb_fuel a3 a2 (by rw [rb_fuel_eq]; omega)
        obtain ⟨d1, d2, d3⟩ := C_empty (TXc_106 a3 b3) hl
        have R3 : RS (rb_sF h2 1 1 0) 106 B := RS_ag b2 d3 (by decide) (fun _ hx => NL_at (A := sIds 106) (by decide) hx)
        obtain ⟨h4, f1, f2, f3⟩ := S_copyFrom (o := 94) R3 n1 (by omega) (by decide)
        have A4 : Ag ([1, 94, 95, 96, 97, 98] ++ sIds 106) h h4 := Ag_trans (Ag_trans (AgS (by decide) (Ag_trans a4 b3)) (AgS (by decide) d3)) (AgS (by decide) f3)
        have A5 : Ag [23] h4 (rb_sF h4 23 2 0) := Ag_sF (by decide) (Ag_refl _ _)
        have A : Ag ([23, 1, 94, 95, 96, 97, 98] ++ sIds 106) h (rb_sF h4 23 2 0) := Ag_trans (AgS (by decide) A4) (AgS (by decide) A5)
        have RN94 : RS (rb_sF h2 1 1 0) 94 (zB σ) := RSn_ag hI.1 (Ag_trans (AgS (A := 1 :: sIds 106) (by decide) (Ag_trans a4 b3)) (AgS (by decide) d3)) (by decide)
        refine ⟨rb_sF h4 23 2 0, ?_, ?_, AgS (by decide +kernel) A⟩
        · unfold fB_pieces fB_pieces_0
          rw [hI.2.2.1.1, if_neg c1, a1, Option.bind_some, C_lines a3 hX, b1, Option.bind_some, d1]
          simp only [rb_lt]
          rw [if_pos (by decide), f1, Option.bind_some, R3.1, RN94.1, bn, show nI (bN (zB σ) + n) - nI (bN (zB σ)) = nI n by rw [nI_sub (by omega)]; congr 1; omega]
          rfl
        · obtain ⟨f, hf, p1, p2, p3⟩ := hI.2.2.2.2.1
          refine ⟨RS_ag f2 A5 (by decide) (fun _ hx => NL_at (A := sIds 94) (by decide) hx), RuCn_ag hI.2.1 A (by decide), TXc_ag (TXc_ag d2 f3 (by decide)) A5 (by decide), RWc_ag hI.2.2.2.1 A (by decide), ⟨f, hf, ?_, by simp [hI_sI, hI_sJ, hI_sF, hI_sR, hI_cp, hJ_sI, hJ_sJ, hJ_sF, hJ_sR, hJ_cp, hF_sI, hF_sJ, hF_sF, hF_sR, hF_cp, hR_sI, hR_sJ, hR_sF, hR_sR, hR_cp, zP, yP]; rfl, fun i hi => absurd hi (Nat.not_lt_zero _)⟩, KPc_ag hI.2.2.2.2.2.1 A (by decide), FAc_ag hI.2.2.2.2.2.2.1 A (by decide) (by decide), FAc_ag hI.2.2.2.2.2.2.2 A (by decide) (by decide)⟩
          rw [hF_sF, if_neg (by decide), AgF A4 (by decide)]
          exact p1
      · have hI := IM_thr hI0
        obtain ⟨h1, b1, b2, b3, b4, b5⟩ := rp_begin hI.2.2.1 hl 47
        have R1 := RMn_ag hI.1 b5 (by decide)
        obtain ⟨h2, d1, d2, d3, d4⟩ := hM h1 rb_fuel b2 R1 (tt h1) (by rw [rb_fuel_eq]; omega)
        have R2 : RM h2 50 (zB σ) := RMn_ag R1 d4 (by decide)
        have R2' : RM h2 50 (setN B (bN (zB σ))) := by
          obtain ⟨q1, q2, q3, q4, q5⟩ := R2
          refine ⟨q1, q2.trans (congrArg nI n2.2.2.1.symm), q3.trans n2.2.2.2.1.symm, q4.trans n2.2.2.2.2.symm, fun i hi => ?_⟩
          obtain ⟨w1, w2, w3, w4⟩ := q5 i hi
          obtain ⟨z1, z2, z3, z4⟩ := n2.2.1 i hi
          exact ⟨w1.trans (congrArg nI z1.symm), w2.trans (congrArg nI z2.symm), w3.trans (congrArg nI z3.symm), w4.trans (congrArg nI z4.symm)⟩
        obtain ⟨h3, f1, f2, f3⟩ := M_layAll R2' d3 (by omega)
        rw [← bn] at f2
        have f2 : RM h3 50 B := f2
        have A3 : Ag ([1002, 50, 51, 54] ++ rdL) (rb_sF h0 49 7 0) h3 := Ag_trans (Ag_trans (AgS (by decide) b5) (AgS (by decide) d4)) (AgS (by decide) f3)
        obtain ⟨c, k0, k1, k2⟩ := hI.2.2.2.2.2.1
        have e42 : rb_hF (rb_sF h3 49 20 0) 49 42 = nI c := by rw [hF_sF, if_neg (by decide), AgF A3 (by decide)]; exact k1
        have A4 : Ag [1020, 1042] h3 (rb_sF (rb_sF h3 49 20 0) 49 42 (nI (c + 1))) := Ag_sF (by decide) (Ag_sF (by decide) (Ag_refl _ _))
        have A : Ag ([1020, 1042, 1002, 50, 51, 54] ++ rdL) (rb_sF h0 49 7 0) (rb_sF (rb_sF h3 49 20 0) 49 42 (nI (c + 1))) := Ag_trans (AgS (by decide) A3) (AgS (by decide) A4)
        refine ⟨rb_sF (rb_sF h3 49 20 0) 49 42 (nI (c + 1)), ?_, ?_, Ag_trans (AgS (by decide +kernel) (thr_ag h0)) (AgS (by decide +kernel) A)⟩
        · unfold fM_pieces fM_pieces_0
          simp only [rb_lt]
          rw [show fM_beginText 47 (rb_sF h0 49 7 0) = h1 from b1, b4, if_neg c1, show rb_iter rb_fuel (fun s => fM_pieces_24b s.1 s.2.1 s.2.2) ((0 : Int32), (1 : Int32), h1) = _ from d1, Option.bind_some, d2]
          dsimp only
          rw [if_pos rfl, f1, Option.bind_some, e42, nI_1]
        · refine ⟨RMn_ag f2 A4 (by decide), RuMn_ag hI.2.1 A (by decide), TXm_e (TXm_e (TXm_e b3 d4 (by decide)) f3 (by decide)) A4 (by decide), RWm_ag hI.2.2.2.1 A (by decide), ⟨by simp [hI_sI, hI_sJ, hI_sF, hI_sR, hI_cp, hJ_sI, hJ_sJ, hJ_sF, hJ_sR, hJ_cp, hF_sI, hF_sJ, hF_sF, hF_sR, hF_cp, hR_sI, hR_sJ, hR_sF, hR_sR, hR_cp, zP, yP]; rfl, fun i hi => absurd hi (Nat.not_lt_zero _)⟩, ⟨c + 1, ?_, ?_, fun i hi => ?_⟩, FAm_ag hI.2.2.2.2.2.2.1 A (by decide), FAm_ag hI.2.2.2.2.2.2.2.1 A (by decide), RX_ag hI.2.2.2.2.2.2.2.2 A (by decide)⟩
          · show c + 1 ≤ bN B
            omega
          · rw [hF_sF, if_pos ⟨rfl, rfl⟩]
          · obtain ⟨w1, w2⟩ := k2 i hi
            refine ⟨fun z => (AgI A (by decide) i).trans (w1 z), fun b hb => ?_⟩
            obtain ⟨y1, y2, k, y3, y4, y5⟩ := w2 b hb
            refine ⟨(AgI A (by decide) i).trans y1, RG_ag y2 A (by decide), k, by omega, (AgI A (by decide) i).trans y4, ?_⟩
            have kb := (hσ.2.2.2.2.1 i hi b hb).2.1
            show k = c + 1 ↔ bN b = bN B
            omega
