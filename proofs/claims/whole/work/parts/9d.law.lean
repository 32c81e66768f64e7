/-! rule, law -/
def pC3 : List Nat := [94, 95, 96, 97, 98, 3, 4] ++ pP ++ pK ++ [17, 18, 19, 20, 21, 22]
def pM3 : List Nat := [1002, 50, 51, 1006, 53, 1020, 58, 1042, 90, 91, 92, 1035, 84, 85, 1038, 86, 87]
section
variable {L : List Nat} {h h' : rb_H} {σ : sSt} {X : List Nat} {ρ : sRu}
theorem IC_rule (hI : IC h σ) (hA : Ag L h h') (hL : NL pC3 L = true) (hU : RuC h' 5 ρ) (hX : TXc h' X) : IC h' (yX (yR σ ρ) X) :=
  ⟨RSn_ag hI.1 hA (NL_sub hL (by decide +kernel)), hU, hX, RWc_ag hI.2.2.2.1 hA (NL_sub hL (by decide +kernel)), PAc_ag hI.2.2.2.2.1 hA (NL_sub hL (by decide +kernel)), KPc_ag hI.2.2.2.2.2.1 hA (NL_sub hL (by decide +kernel)), FAc_ag hI.2.2.2.2.2.2.1 hA (by decide) (NL_sub hL (by decide +kernel)), FAc_ag hI.2.2.2.2.2.2.2 hA (by decide) (NL_sub hL (by decide +kernel))⟩
theorem IM_rule (hI : IM h σ) (hA : Ag L h h') (hL : NL pM3 L = true) (hU : RuM h' ρ) (hX : TXm h' X) (hx : RX h') : IM h' (yX (yR σ ρ) X) :=
  ⟨RMn_ag hI.1 hA (NL_sub hL (by decide)), hU, hX, RWm_ag hI.2.2.2.1 hA (NL_sub hL (by decide)), PAm_ag hI.2.2.2.2.1 hA (NL_sub hL (by decide)), KPm_ag hI.2.2.2.2.2.1 hA (NL_sub hL (by decide)), FAm_ag hI.2.2.2.2.2.2.1 hA (NL_sub hL (by decide)), FAm_ag hI.2.2.2.2.2.2.2.1 hA (NL_sub hL (by decide)), hx⟩
theorem RuM_eq (hr : RuM h ρ) (e1 : rb_hR h' 1 = rb_hR h 1) (e2 : rb_hF h' 49 16 = rb_hF h 49 16) (e3 : ∀ i, rb_hI h' (rb_hR h 1) i = rb_hI h (rb_hR h 1) i) : RuM h' ρ := by
  obtain ⟨r1, r2⟩ := hr
  refine ⟨fun z => e2 ▸ r1 z, fun z => ?_⟩
  obtain ⟨q1, q2, q3, q4⟩ := r2 z
  refine ⟨e2 ▸ q1, by rw [e1]; exact q2, by rw [e1]; exact q3, fun g th f0 f1 f2 f3 f4 f5 f6 f7 => ?_⟩
  rw [e1] at f0 f1
  exact q4 g th f0 (fun i => (f1 i).trans (e3 i)) (f2.trans e2) f3 f4 f5 f6 f7
end
/-- the text is emptied, and no more -/
theorem WS_cut {σ : sSt} (hσ : WS σ) : WS (yX σ []) := WS_text hσ (by simp) (fun c hc => nomatch hc)
theorem C_empty {h : rb_H} {X : List Nat} (hX : TXc h X) (hl : X.length ≤ 80) : fT_shorten 0 h = (true, rb_sF h 1 1 0) ∧ TXc (rb_sF h 1 1 0) [] ∧ Ag [1] h (rb_sF h 1 1 0) := C_cut hX hl (n := 0) (Nat.zero_le _)
theorem O_rule : rb_op fB_rule fM_rule := by
  intro σ hσ
  rcases rule_both (rp_X_of hσ (show 40 ≤ 80 by omega)) with ⟨q, hq, hC, hM⟩ | ⟨C, v, l1, l2, hC, hM, hc⟩
  · refine ⟨-1 - nI q, yX σ [], WS_cut hσ, fun h hI => ?_, fun h0 hI0 => ?_⟩
    · obtain ⟨h1, a1, a2⟩ := hC h hI.2.2.1
      obtain ⟨c1, c2, c3⟩ := C_empty (TXc_ag hI.2.2.1 a2 (by decide)) hσ.2.1.1
      have A : Ag [11, 12, 14, 15, 1] h (rb_sF h1 1 1 0) := Ag_trans (AgS (by decide) a2) (AgS (by decide) c3)
      refine ⟨_, ?_, IC_text hI A (by decide +kernel) c2, AgS (by decide +kernel) A⟩
      unfold fB_rule fB_rule_0
      rw [a1, Option.bind_some, c1]
      simp only [rb_lt]
      rw [if_neg (nI_pos (by omega))]
    · have hI := IM_thr hI0
      obtain ⟨h1, a1, a2, a3, a4⟩ := hM _ hI.2.2.1
      refine ⟨h1, ?_, IM_text hI a4 (by decide +kernel) a3, Ag_trans (AgS (by decide +kernel) (thr_ag h0)) (AgS (by decide +kernel) a4)⟩
      unfold fM_rule fM_rule_0
      rw [a1, Option.bind_some]
      dsimp only
      rw [if_neg (by decide), a2]
  · refine ⟨0, yX (yR σ (ruOf (zX σ).length v)) [], WS_cut (σ := yR σ (ruOf (zX σ).length v)) hσ, fun h hI => ?_, fun h0 hI0 => ?_⟩
    · obtain ⟨h1, a1, a2, a3, a4⟩ := hC h hI.2.2.1
      obtain ⟨c1, c2, c3⟩ := C_empty (TXc_ag hI.2.2.1 a2 (by decide)) hσ.2.1.1
      obtain ⟨h3, d1, d2, d3, d4⟩ := C_ruCopy (h := rb_sF h1 1 1 0) l2 (by rw [hF_sF, if_neg (by decide)]; exact a3) (fun i hi => a4 i hi)
      have A : Ag [11, 12, 14, 15, 1, 5, 6] h h3 := Ag_trans (Ag_trans (AgS (by decide) a2) (AgS (by decide) c3)) (AgS (by decide) d2)
      refine ⟨h3, ?_, IC_rule hI A (by decide +kernel) (RuC_read (by decide) (by decide +kernel) l2 d3 d4 (hc.imp id (fun z => ⟨z.1, z.2.1, z.2.2.1⟩))) (TXc_ag c2 d2 (by decide)), AgS (by decide +kernel) A⟩
      unfold fB_rule fB_rule_0
      rw [a1, Option.bind_some, c1]
      simp only [rb_lt]
      rw [if_pos (by decide), d1]
      rfl
    · have hI := IM_thr hI0
      obtain ⟨h1, a1, a3, a4⟩ := hM _ hI.2.2.1
      have x1 := RX_ag hI.2.2.2.2.2.2.2.2 a4 (by decide)
      obtain ⟨h2, b1, b2, b3⟩ := M_ruCopy (h := h1) (X := zX σ) (f := fun v h => fM_rule_26b (nI (zX σ).length) v h) x1.1 (Or.inl rfl) l1 (fun i hi => (AgI a4 (by decide) i).trans (hI.2.2.1.2 i hi)) (fun v h => rfl)
      have A2 : Ag [1016] h2 (rb_sF h2 49 16 (nI (zX σ).length)) := Ag_sF (by decide) (Ag_refl _ _)
      have A : Ag (1016 :: 55 :: rdL) (rb_sF h0 49 7 0) (rb_sF h2 49 16 (nI (zX σ).length)) := Ag_trans (Ag_trans (AgS (by decide) a4) (AgS (by decide) b2)) (AgS (by decide) A2)
      have x2 : RX (rb_sF h2 49 16 (nI (zX σ).length)) := RX_ag hI.2.2.2.2.2.2.2.2 A (by decide)
      refine ⟨rb_sF h2 49 16 (nI (zX σ).length), ?_, IM_rule hI A (by decide) (RuM_read x2.1 (Or.inl rfl) l1 (by rw [hF_sF, if_pos ⟨rfl, rfl⟩]) (fun i hi => b3 i hi) (hc.imp (fun z => z.1) (fun z => z.2.2.2))) (TXm_e (TXm_e a3 b2 (by decide)) A2 (by decide)) x2, Ag_trans (AgS (by decide +kernel) (thr_ag h0)) (AgS (by decide +kernel) A)⟩
      unfold fM_rule fM_rule_0
      rw [a1, Option.bind_some]
      dsimp only
      rw [if_pos rfl, hI.2.2.1.1, b1]
      rfl
theorem M_behind {h : rb_H} {B : sBd} {ρ : sRu} (hR : RM h 50 B) (hW : WF B) (hU : RuM h ρ) : ∃ h', fM_behind8 h = some (nI (stN (qdn ρ B 8)), h') ∧ rb_hF h' 49 24 = nI (paidAll ρ B 8) ∧ Ag (60 :: 1024 :: mR) h h' := by
  obtain ⟨h1, a1, a2, a3⟩ := M_layB (a := 50) (b := 60) hR hW (by decide) (by decide) (by rfl)
  obtain ⟨h2, b1, b2, b3, b4⟩ := M_goQuarters a2 hW (RuMn_ag hU a3 (by decide)) (by unfold mA; omega) (n := 8) (by omega)
  unfold fM_behind8 fM_behind8_0
  rw [a1, Option.bind_some, show fM_goQuarters 60 8 h1 = _ from b1, Option.bind_some, M_inMany b2 (qdn_WF hW 8)]
  exact ⟨h2, rfl, b3, Ag_trans (AgS (by decide) a3) b4⟩
theorem O_law : rb_op fB_law fM_law := by
  intro σ hσ
  have hW := hσ.1
  rcases rule_both (rp_X_of hσ (show 40 ≤ 80 by omega)) with ⟨q, hq, hC, hM⟩ | ⟨C, v, l1, l2, hC, hM, hc⟩
  · refine ⟨-10000 - nI q, yX σ [], WS_cut hσ, fun h hI => ?_, fun h0 hI0 => ?_⟩
    · obtain ⟨h1, a1, a2⟩ := hC h hI.2.2.1
      obtain ⟨c1, c2, c3⟩ := C_empty (TXc_ag hI.2.2.1 a2 (by decide)) hσ.2.1.1
      have A : Ag [11, 12, 14, 15, 1] h (rb_sF h1 1 1 0) := Ag_trans (AgS (by decide) a2) (AgS (by decide) c3)
      refine ⟨_, ?_, IC_text hI A (by decide +kernel) c2, AgS (by decide +kernel) A⟩
      unfold fB_law fB_law_0
      rw [a1, Option.bind_some, c1]
      simp only [rb_lt]
      rw [if_neg (nI_pos (by omega))]
    · have hI := IM_thr hI0
      obtain ⟨h1, a1, a2, a3, a4⟩ := hM _ hI.2.2.1
      refine ⟨h1, ?_, IM_text hI a4 (by decide +kernel) a3, Ag_trans (AgS (by decide +kernel) (thr_ag h0)) (AgS (by decide +kernel) a4)⟩
      unfold fM_law fM_law_0
      rw [a1, Option.bind_some]
      dsimp only
      rw [if_neg (by decide), a2]
  · generalize hE1 : stN (qdn (ruOf (zX σ).length v) (zB σ) 8) = s1
    generalize hE2 : stN (qdn (zR σ) (zB σ) 8) = s2
    generalize hP1 : paidAll (ruOf (zX σ).length v) (zB σ) 8 = p1
    generalize hP2 : paidAll (zR σ) (zB σ) 8 = p2
    refine ⟨nI s1 - nI s2, yT (yX σ []) [(nI s1).toInt64, (nI s2).toInt64, (nI p1).toInt64, (nI p2).toInt64], WS_row (WS_cut hσ) (by simp), fun h hI => ?_, fun h0 hI0 => ?_⟩
    · obtain ⟨h1, a1, a2, a3, a4⟩ := hC h hI.2.2.1
      obtain ⟨c1, c2, c3⟩ := C_empty (TXc_ag hI.2.2.1 a2 (by decide)) hσ.2.1.1
      have A : Ag [11, 12, 14, 15, 1] h (rb_sF h1 1 1 0) := Ag_trans (AgS (by decide) a2) (AgS (by decide) c3)
      have hI2 : IC (rb_sF h1 1 1 0) (yX σ []) := IC_text hI A (by decide +kernel) c2
      have U : RuC (rb_sF h1 1 1 0) 11 (ruOf (zX σ).length v) := RuC_read (by decide) (by decide +kernel) l2 (by rw [hF_sF, if_neg (by decide)]; exact a3) (fun i hi => a4 i hi) (hc.imp id (fun z => ⟨z.1, z.2.1, z.2.2.1⟩))
      have hA := AgS (A := cC) (by decide +kernel) A
      unfold fB_law fB_law_0
      rw [a1, Option.bind_some, c1]
      simp only [rb_lt]
      rw [if_pos (by decide)]
      generalize rb_sF h1 1 1 0 = g at hI2 U hA ⊢
      obtain ⟨g1, d1, d2, d3⟩ := S_copyFrom (o := 106) hI2.1 hW (by omega) (by decide)
      obtain ⟨g2, e1, e2, e3⟩ := S_live d2 hW (RuC_ag U d3 (by decide) (by decide)) (by decide) (by decide) (by omega) (n := 8) (by omega)
      have W1 := qdn_WF (ρ := ruOf (zX σ).length v) hW 8
      have W2 := qdn_WF (ρ := zR σ) hW 8
      have N2 := RSn_ag (RSn_ag hI2.1 d3 (by decide)) e3 (by decide)
      have U2 := RuCn_ag (RuCn_ag hI2.2.1 d3 (by decide)) e3 (by decide)
      obtain ⟨g3, f1, f2, f3⟩ := S_copyFrom (o := 106) N2 hW (by omega) (by decide)
      obtain ⟨g4, i1, i2, i3⟩ := S_live f2 hW (RuCn_ag U2 f3 (by decide)) (by decide) (by decide) (by omega) (n := 8) (by omega)
      rw [d1, Option.bind_some, show fS_live 106 11 8 g1 = _ from e1, Option.bind_some]
      dsimp only
      rw [S_standing e2 W1, Option.bind_some, f1, Option.bind_some, show fS_live 106 5 8 g3 = _ from i1, Option.bind_some]
      dsimp only
      rw [S_standing i2 W2, Option.bind_some]
      rw [show zR (yX σ []) = zR σ from rfl, show zB (yX σ []) = zB σ from rfl, hE1, hE2, hP1, hP2]
      obtain ⟨g5, j1, j2, j3⟩ := C_tell1 (nI s1).toInt64 (nI s2).toInt64 g4
      obtain ⟨g6, k1, k2, k3⟩ := C_add j2 (by simp) (nI p1).toInt64
      obtain ⟨g7, m1, m2, m3⟩ := C_add k2 (by simp) (nI p2).toInt64
      rw [j1, Option.bind_some, k1, Option.bind_some, m1, Option.bind_some]
      have Ax : Ag fC0 g g7 := Ag_trans (AgS (by decide +kernel) d3) (Ag_trans (AgS (by decide +kernel) e3) (Ag_trans (AgS (by decide +kernel) f3) (Ag_trans (AgS (by decide +kernel) i3) (Ag_trans (AgS (by decide +kernel) j3) (Ag_trans (AgS (by decide +kernel) k3) (AgS (by decide +kernel) m3))))))
      obtain ⟨z1, z2⟩ := C_done0 hI2 Ax m2
      exact ⟨g7, rfl, z1, Ag_trans hA z2⟩
    · have hI := IM_thr hI0
      obtain ⟨h1, a1, a3, a4⟩ := hM _ hI.2.2.1
      have x1 := RX_ag hI.2.2.2.2.2.2.2.2 a4 (by decide)
      have R1 := RMn_ag hI.1 a4 (by decide)
      have U1 := RuMn_ag hI.2.1 a4 (by decide)
      obtain ⟨h2, b1, b2, b3⟩ := M_behind R1 hW U1
      have x2 := RX_ag x1 b3 (by decide)
      have U2 := RuMn_ag U1 b3 (by decide)
      have R2 := RMn_ag R1 b3 (by decide)
      have A3 : Ag [2001, 1016] h2 (rb_sF (rb_sR h2 1 56) 49 16 (nI (zX σ).length)) := Ag_sF (by decide) (Ag_sR (by decide) (Ag_refl _ _))
      have e3 : rb_hR (rb_sF (rb_sR h2 1 56) 49 16 (nI (zX σ).length)) 1 = 56 := by rw [hR_sF, hR_sR, if_pos rfl]
      have f3 : rb_hF (rb_sF (rb_sR h2 1 56) 49 16 (nI (zX σ).length)) 49 16 = nI (zX σ).length := by rw [hF_sF, if_pos ⟨rfl, rfl⟩]
      unfold fM_law fM_law_0
      rw [a1, Option.bind_some]
      dsimp only
      rw [if_pos rfl, b1, Option.bind_some]
      dsimp only
      rw [x2.1, x2.2, if_pos (by decide +kernel), if_pos (by decide +kernel), hI.2.2.1.1]
      generalize rb_sF (rb_sR h2 1 56) 49 16 (nI (zX σ).length) = g at A3 e3 f3 ⊢
      have At := Ag_trans (AgS (A := 60 :: 1024 :: (mR ++ rdL)) (by decide) a4) (AgS (by decide) b3)
      obtain ⟨g2, c1, c2, c3⟩ := M_ruCopy (h := g) (X := zX σ) (f := fun w h => fM_law_64b (nI (zX σ).length) (nI (stN (qdn (zR σ) (zB σ) 8))) (rb_hF h2 49 24) 55 (rb_hF h2 49 16) w h) e3 (Or.inr rfl) l1 (fun i hi => ((AgI A3 (by decide) i).trans (AgI At (by decide) i)).trans (hI.2.2.1.2 i hi)) (fun w h => rfl)
      rw [c1, Option.bind_some]
      have U3 : RuM g2 (ruOf (zX σ).length v) := RuM_read ((AgR c2 (by decide)).trans e3) (Or.inr rfl) l1 ((AgF c2 (by decide)).trans f3) c3 (hc.imp (fun z => z.1) (fun z => z.2.2.2))
      have R3 : RM g2 50 (zB σ) := RMn_ag (RMn_ag R2 A3 (by decide)) c2 (by decide)
      obtain ⟨g3, d1, d2, d3⟩ := M_behind R3 hW U3
      rw [d1, Option.bind_some]
      dsimp only
      have A5 : Ag [2001, 1016] g3 (rb_sF (rb_sR g3 1 55) 49 16 (rb_hF h2 49 16)) := Ag_sF (by decide) (Ag_sR (by decide) (Ag_refl _ _))
      have e5 : rb_hR (rb_sF (rb_sR g3 1 55) 49 16 (rb_hF h2 49 16)) 1 = 55 := by rw [hR_sF, hR_sR, if_pos rfl]
      have f5 : rb_hF (rb_sF (rb_sR g3 1 55) 49 16 (rb_hF h2 49 16)) 49 16 = rb_hF h2 49 16 := by rw [hF_sF, if_pos ⟨rfl, rfl⟩]
      have p5 : rb_hF (rb_sF (rb_sR g3 1 55) 49 16 (rb_hF h2 49 16)) 49 24 = nI p1 := by rw [hF_sF, if_neg (by decide), hF_sR, d2, hP1]
      generalize rb_sF (rb_sR g3 1 55) 49 16 (rb_hF h2 49 16) = g5 at A5 e5 f5 p5 ⊢
      rw [hE1, hE2]
      obtain ⟨g6, k1, k2, k3⟩ := M_tellA (nI s1).toInt64 g5
      obtain ⟨g7, m1, m2, m3⟩ := M_tell k2 (by simp) (nI s2).toInt64
      rw [k1, Option.bind_some, m1, Option.bind_some]
      have p7 : rb_hF g7 49 24 = nI p1 := (AgF m3 (by decide)).trans ((AgF k3 (by decide)).trans p5)
      obtain ⟨g8, n1, n2, n3⟩ := M_tell m2 (by simp) (nI p1).toInt64
      obtain ⟨g9, o1, o2, o3⟩ := M_tell n2 (by simp) (nI p2).toInt64
      rw [p7, n1, Option.bind_some, b2, hP2, o1, Option.bind_some]
      have Aend : Ag [1006, 53] g5 g9 := Ag_trans k3 (Ag_trans m3 (Ag_trans n3 o3))
      have Amid : Ag (56 :: 2001 :: 1016 :: 60 :: 1024 :: mR) h2 g5 := Ag_trans (AgS (by decide) A3) (Ag_trans (AgS (by decide) c2) (Ag_trans (AgS (by decide) d3) (AgS (by decide) A5)))
      have Aall : Ag (1006 :: 53 :: 56 :: 2001 :: 1016 :: 60 :: 1024 :: (mR ++ rdL)) (rb_sF h0 49 7 0) g9 := Ag_trans (AgS (by decide) At) (Ag_trans (AgS (by decide) Amid) (AgS (by decide) Aend))
      have x9 : RX g9 := ⟨(AgR Aend (by decide)).trans e5, (AgR Aend (by decide)).trans ((AgR Amid (by decide)).trans x2.2)⟩
      have U9 : RuM g9 (zR σ) := RuM_eq U2 (x9.1.trans x2.1.symm) ((AgF Aend (by decide)).trans f5) (fun i => by rw [x2.1]; exact (AgI Aend (by decide) i).trans (AgI Amid (by decide) i))
      have T9 : TXm g9 [] := TXm_e (TXm_e (TXm_e a3 b3 (by decide)) Amid (by decide)) Aend (by decide)
      refine ⟨g9, rfl, ?_, Ag_trans (AgS (by decide +kernel) (thr_ag h0)) (AgS (by decide +kernel) Aall)⟩
      exact ⟨RMn_ag hI.1 Aall (by decide), U9, T9, o2, PAm_ag hI.2.2.2.2.1 Aall (by decide), KPm_ag hI.2.2.2.2.2.1 Aall (by decide), FAm_ag hI.2.2.2.2.2.2.1 Aall (by decide), FAm_ag hI.2.2.2.2.2.2.2.1 Aall (by decide), x9⟩
