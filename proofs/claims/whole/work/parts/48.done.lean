/-! what a call may change; how it ends -/
def pC1 : List Nat := [5, 6, 1, 2] ++ pK ++ [17, 18, 19, 20, 21, 22]
def pM1 : List Nat := [1002, 51, 1016, 2001, 55, 56, 1004, 52, 1042, 90, 91, 92, 1035, 84, 85, 1038, 86, 87, 2002]
/-- the class's scratch cells and the row -/
def fC0 : List Nat := [3, 4, 7, 8, 9, 10, 11, 12, 13, 14, 15, 16] ++ List.range' 27 22 ++ [99] ++ List.range' 100 12 ++ List.range' 196 12
def fC : List Nat := [94, 95, 96, 97, 98] ++ pP ++ fC0
def fM0 : List Nat := [1006, 53, 1007, 54, 57, 59, 60, 61, 62, 1008, 1009, 1010, 1011, 1012, 1017, 1024, 1041, 2000, 88, 89] ++ List.range' 63 21
def fM : List Nat := [50, 1020, 58] ++ fM0
def sam (B B' : sBd) : Prop := bN B' = bN B ∧ ∀ j, j < bN B → bS B' j = bS B j
theorem sam_al {B B' b : sBd} (hs : sam B B') (h : alB B b) : alB B' b := ⟨by rw [hs.1]; exact h.1, fun j hj => (h.2 j hj).trans (hs.2 j (by have := h.1; omega)).symm⟩
section
variable {L A : List Nat} {h h' : rb_H} {σ : sSt} {B : sBd} {P : List sBd} {R : List Int64}
theorem AgS (hs : SL L A = true) (hA : Ag L h h') : Ag A h h' := Ag_mono (fun _ hx => SL_at hs hx) hA
theorem IC_brp (hI : IC h σ) (hA : Ag L h h') (hL : NL pC1 L = true) (hB : RS h' 94 B) (hP : PAc h' P) (hR : RWc h' R) : IC h' (yT (yP (yB σ B) P) R) :=
  ⟨hB, RuCn_ag hI.2.1 hA (NL_sub hL (by decide)), TXc_ag hI.2.2.1 hA (NL_sub hL (by decide)), hR, hP, KPc_ag hI.2.2.2.2.2.1 hA (NL_sub hL (by decide)), FAc_ag hI.2.2.2.2.2.2.1 hA (by decide) (NL_sub hL (by decide)), FAc_ag hI.2.2.2.2.2.2.2 hA (by decide) (NL_sub hL (by decide))⟩
theorem IM_brp (hI : IM h σ) (hA : Ag L h h') (hL : NL pM1 L = true) (hB : RM h' 50 B) (hn : bN B = bN (zB σ)) (hP : PAm h' P) (hR : RWm h' R) : IM h' (yT (yP (yB σ B) P) R) :=
  ⟨hB, RuMn_ag hI.2.1 hA (NL_sub hL (by decide)), TXm_ag hI.2.2.1 hA (NL_sub hL (by decide)), hR, hP, by show KPm h' (zK σ) (bN B); rw [hn]; exact KPm_ag hI.2.2.2.2.2.1 hA (NL_sub hL (by decide)), FAm_ag hI.2.2.2.2.2.2.1 hA (NL_sub hL (by decide)), FAm_ag hI.2.2.2.2.2.2.2.1 hA (NL_sub hL (by decide)), RX_ag hI.2.2.2.2.2.2.2.2 hA (NL_sub hL (by decide))⟩
theorem C_done (hI : IC h σ) (hA : Ag fC h h') (hB : RS h' 94 B) (hP : PAc h' P) (hR : RWc h' R) : IC h' (yT (yP (yB σ B) P) R) ∧ Ag cC h h' := ⟨IC_brp hI hA (by decide +kernel) hB hP hR, AgS (by decide +kernel) hA⟩
theorem C_done0 (hI : IC h σ) (hA : Ag fC0 h h') (hR : RWc h' R) : IC h' (yT σ R) ∧ Ag cC h h' := ⟨IC_row hI hA (by decide +kernel) hR, AgS (by decide +kernel) hA⟩
theorem M_done (hI : IM h σ) (hA : Ag fM h h') (hB : RM h' 50 B) (hn : bN B = bN (zB σ)) (hP : PAm h' P) (hR : RWm h' R) : IM h' (yT (yP (yB σ B) P) R) ∧ Ag cM h h' := ⟨IM_brp hI hA (by decide +kernel) hB hn hP hR, AgS (by decide +kernel) hA⟩
theorem M_done0 (hI : IM h σ) (hA : Ag fM0 h h') (hR : RWm h' R) : IM h' (yT σ R) ∧ Ag cM h h' := ⟨IM_row hI hA (by decide +kernel) hR, AgS (by decide +kernel) hA⟩
/-- nothing but scratch cells -/
theorem C_same (hI : IC h σ) (hA : Ag fC0 h h') (hr : ∀ i, rb_hJ h' 4 i = rb_hJ h 4 i) (hf : rb_hF h' 3 1 = rb_hF h 3 1) : IC h' σ ∧ Ag cC h h' := C_done0 (R := zT σ) hI hA ⟨hf.trans hI.2.2.2.1.1, fun i hi => (hr i).trans (hI.2.2.2.1.2 i hi)⟩
theorem C_ref (hI : IC h σ) : IC h σ ∧ Ag cC h h := ⟨hI, Ag_refl _ _⟩
theorem thr_ag (h : rb_H) : Ag fM0 h (rb_sF h 49 7 0) := Ag_sF (by decide) (Ag_refl _ _)
theorem thr_ag' (h : rb_H) : Ag fM h (rb_sF h 49 7 0) := Ag_sF (by decide) (Ag_refl _ _)
theorem IM_thr (hI : IM h σ) : IM (rb_sF h 49 7 0) σ := IM_ag (L := [1007]) hI (Ag_sF (by decide) (Ag_refl _ _)) (by decide)
theorem M_ref (hI : IM h σ) : IM (rb_sF h 49 7 0) σ ∧ Ag cM h (rb_sF h 49 7 0) := ⟨IM_thr hI, AgS (by decide +kernel) (thr_ag h)⟩
theorem WS_brp (hσ : WS σ) (hW : WF B) (hs : sam (zB σ) B) (hP : P.length ≤ 12 ∧ ∀ b, b ∈ P → WF b ∧ bN b = bN (zB σ) ∧ alB (zB σ) b) (hR : R.length ≤ 16) : WS (yT (yP (yB σ B) P) R) :=
  ⟨hW, hσ.2.1, hR, ⟨hP.1, fun b hb => ⟨(hP.2 b hb).1, (hP.2 b hb).2.1.trans hs.1.symm, sam_al hs (hP.2 b hb).2.2⟩⟩, fun i hi b hb => ⟨(hσ.2.2.2.2.1 i hi b hb).1, sam_al hs (hσ.2.2.2.2.1 i hi b hb).2⟩, hσ.2.2.2.2.2.1, hσ.2.2.2.2.2.2⟩
theorem WS_row (hσ : WS σ) (hR : R.length ≤ 16) : WS (yT σ R) := ⟨hσ.1, hσ.2.1, hR, hσ.2.2.2.1, hσ.2.2.2.2.1, hσ.2.2.2.2.2.1, hσ.2.2.2.2.2.2⟩
theorem push_ok (hσ : WS σ) : (pushP (zP σ) (zB σ)).length ≤ 12 ∧ ∀ b, b ∈ pushP (zP σ) (zB σ) → WF b ∧ bN b = bN (zB σ) ∧ alB (zB σ) b :=
  ⟨pushP_len hσ.2.2.2.1.1, fun b hb => (pushP_mem hb).elim (fun q => hσ.2.2.2.1.2 b q) (fun q => by subst q; exact ⟨hσ.1, rfl, Nat.le_refl _, fun _ _ => rfl⟩)⟩
theorem WS_push (hσ : WS σ) (hW : WF B) (hs : sam (zB σ) B) (hR : R.length ≤ 16) : WS (yT (yP (yB σ B) (pushP (zP σ) (zB σ))) R) := WS_brp hσ hW hs (push_ok hσ) hR
theorem past8 (hσ : WS σ) : ∀ b, b ∈ zP σ → bN b ≤ 8 := fun b hb => (hσ.2.2.2.1.2 b hb).1.1
/-- the class's past with the board as it is -/
theorem C_pastI (hσ : WS σ) (hI : IC h σ) : ∃ h', fP_add 94 h = some h' ∧ PAc h' (pushP (zP σ) (zB σ)) ∧ Ag pP h h' := C_past hI.2.2.2.2.1 hσ.2.2.2.1.1 hI.1 hσ.1 (Or.inl rfl)
theorem M_pastI (hσ : WS σ) (hI : IM h σ) : ∃ h', fM_remember 50 h = some h' ∧ PAm h' (pushP (zP σ) (zB σ)) ∧ Ag [1020, 58] h h' := M_past hI.2.2.2.2.1 hσ.2.2.2.1.1 (past8 hσ) (RM_iff.mp hI.1).2 hσ.1.1 (by decide) (by decide)
end
/-! quarters, passes -/
theorem O_quarters (v : Int32) : rb_op (fB_quarters v) (fM_quarters v) := by
  intro σ hσ
  have hW := hσ.1
  rcases rg_or v (n := 60) (by omega) with ⟨k, hk, rfl⟩ | hv
  · refine ⟨nI (outAll (zR σ) (zB σ) k), yT (yP (yB σ (qdn (zR σ) (zB σ) k)) (pushP (zP σ) (zB σ))) [(nI (paidAll (zR σ) (zB σ) k)).toInt64], WS_push hσ (qdn_WF hW k) ⟨qdn_N _ _ _, fun j _ => by rw [qdn_S]⟩ (by simp), fun h hI => ?_, fun h0 hI0 => ?_⟩
    · obtain ⟨h1, a1, a2, a3⟩ := C_pastI hσ hI
      have I1B := RSn_ag hI.1 a3 (by decide +kernel)
      have I1U := RuCn_ag hI.2.1 a3 (by decide +kernel)
      obtain ⟨h2, b1, b2, b3⟩ := S_live I1B hW I1U (by decide) (by decide) (by omega) (n := k) (by omega)
      obtain ⟨h3, c1, c2, c3⟩ := C_tell2 (nI (paidAll (zR σ) (zB σ) k)).toInt64 h2
      have I3B := RSn_ag b2 c3 (by decide)
      unfold fB_quarters fB_quarters_0
      rw [if_neg (nI_pos (by omega)), if_pos (show nI k ≤ (60 : Int32) from nI_le (b := 60) hk (by omega))]
      simp only [a1, Option.bind_some, S_standing I1B hW, b1, c1, S_standing I3B (qdn_WF hW k)]
      refine ⟨h3, ?_, C_done hI (Ag_trans (AgS (by decide +kernel) a3) (Ag_trans (AgS (by decide +kernel) b3) (AgS (by decide +kernel) c3))) I3B (PAc_ag (PAc_ag a2 b3 (by decide +kernel)) c3 (by decide +kernel)) c2⟩
      rw [nI_sub (by have := stN_qdn (zR σ) (zB σ) k; omega)]
      congr 3
      have := stN_qdn (zR σ) (zB σ) k
      omega
    · have hI := IM_thr hI0
      have hA0 := thr_ag' h0
      unfold fM_quarters fM_quarters_0
      rw [M_in_y (n := 60) (M := 60) hk (by omega) rfl, if_pos rfl]
      generalize rb_sF h0 49 7 0 = h at hI hA0 ⊢
      obtain ⟨h1, a1, a2, a3⟩ := M_pastI hσ hI
      obtain ⟨h2, b1, b2, b3, b4⟩ := M_goQuarters (RMn_ag hI.1 a3 (by decide)) hW (RuMn_ag hI.2.1 a3 (by decide)) (Or.inl rfl) (n := k) (by omega)
      obtain ⟨h3, c1, c2, c3⟩ := M_tellA (nI (paidAll (zR σ) (zB σ) k)).toInt64 h2
      have e24 : rb_hF (rb_sF h2 49 6 0) 49 24 = nI (paidAll (zR σ) (zB σ) k) := by rw [hF_sF, if_neg (by decide), b3]
      simp only [a1, Option.bind_some, b1, e24, c1]
      exact ⟨h3, rfl, M_done hI0 (Ag_trans hA0 (Ag_trans (AgS (by decide +kernel) a3) (Ag_trans (AgS (by decide +kernel) b4) (AgS (by decide +kernel) c3)))) (RMn_ag b2 c3 (by decide)) (qdn_N _ _ _) (PAm_ag (PAm_ag a2 b4 (by decide +kernel)) c3 (by decide)) c2⟩
  · refine ⟨-1, σ, hσ, fun h hI => ⟨h, ?_, C_ref hI⟩, fun h hI => ⟨_, ?_, M_ref hI⟩⟩
    · unfold fB_quarters fB_quarters_0
      rcases hv with hv | ⟨hv, hv2⟩
      · rw [if_pos hv]
      · rw [if_neg hv, if_neg (show ¬ v ≤ (60 : Int32) from Int32.not_le.mpr hv2)]
    · unfold fM_quarters fM_quarters_0
      rw [M_in_no (M := 60) hv, if_neg (by decide)]
/-- the other side's turn -/
def tnB (B : sBd) : sBd := (bK B, bS B, bP B, bU B, bN B, 1 - bT B, bQ B, bM B)
theorem tnB_WF {B : sBd} (hW : WF B) : WF (tnB B) := ⟨hW.1, by show 1 - bT B ≤ 1; omega, hW.2.2.1, hW.2.2.2⟩
theorem C_turn {h : rb_H} {B : sBd} (hR : RS h 94 B) (hW : WF B) : fB_turnOver h = (nI (1 - bT B), rb_sF h 94 6 (nI (1 - bT B))) ∧ RS (rb_sF h 94 6 (nI (1 - bT B))) 94 (tnB B) ∧ Ag [94] h (rb_sF h 94 6 (nI (1 - bT B))) := by
  have e : (1 : Int32) - nI (bT B) = nI (1 - bT B) := nI_sub1 hW.2.1
  refine ⟨?_, ⟨?_, ?_, ?_, ?_, fun i hi => ?_⟩, Ag_sF (by decide) (Ag_refl _ _)⟩
  · unfold fB_turnOver fB_turnOver_0
    rw [hR.2.1, e, hF_sF, if_pos ⟨rfl, rfl⟩]
  · rw [hF_sF, if_neg (by decide)]; exact hR.1
  · rw [hF_sF, if_pos ⟨rfl, rfl⟩]; rfl
  · rw [hF_sF, if_neg (by decide)]; exact hR.2.2.1
  · rw [hF_sF, if_neg (by decide)]; exact hR.2.2.2.1
  · exact hR.2.2.2.2 i hi
theorem M_turn {h : rb_H} {B : sBd} (hR : RM h 50 B) (hW : WF B) : RM (rb_sI h 50 24 (nI (1 - bT B))) 50 (tnB B) ∧ Ag [50] h (rb_sI h 50 24 (nI (1 - bT B))) := by
  have h8 := hW.1
  refine ⟨⟨hR.1, ?_, ?_, ?_, fun i hi => ?_⟩, Ag_sI (by decide) (Ag_refl _ _)⟩
  · rw [hI_sI, if_pos ⟨rfl, rfl⟩]; rfl
  · rw [hI_sI, if_neg (by decide)]; exact hR.2.2.1
  · rw [hI_sI, if_neg (by decide)]; exact hR.2.2.2.1
  · have hi : i < bN B := hi
    obtain ⟨q1, q2, q3, q4⟩ := hR.2.2.2.2 i hi
    rw [hI_sI, hI_sI, hI_sI, hI_sI, if_neg (by omega), if_neg (by omega), if_neg (by omega), if_neg (by omega)]
    exact ⟨q1, q2, q3, q4⟩
theorem O_passes : rb_op fB_passes fM_passes2 := by
  intro σ hσ
  have hW := hσ.1
  refine ⟨nI (1 - bT (zB σ)), yT (yP (yB σ (tnB (zB σ))) (pushP (zP σ) (zB σ))) (zT σ), WS_push hσ (tnB_WF hW) ⟨rfl, fun j _ => rfl⟩ hσ.2.2.1, fun h hI => ?_, fun h0 hI0 => ?_⟩
  · obtain ⟨h1, a1, a2, a3⟩ := C_pastI hσ hI
    obtain ⟨t1, t2, t3⟩ := C_turn (RSn_ag hI.1 a3 (by decide +kernel)) hW
    unfold fB_passes fB_passes_0
    simp only [a1, Option.bind_some, rb_lt, t1]
    exact ⟨_, rfl, C_done hI (Ag_trans (AgS (by decide +kernel) a3) (AgS (by decide +kernel) t3)) t2 (PAc_ag a2 t3 (by decide +kernel)) (RWc_ag (RWc_ag hI.2.2.2.1 a3 (by decide +kernel)) t3 (by decide))⟩
  · have hI := IM_thr hI0
    have hA0 := thr_ag' h0
    unfold fM_passes2 fM_passes2_0
    generalize rb_sF h0 49 7 0 = h at hI hA0 ⊢
    obtain ⟨h1, a1, a2, a3⟩ := M_pastI hσ hI
    have R1 := RMn_ag hI.1 a3 (by decide)
    obtain ⟨t2, t3⟩ := M_turn R1 hW
    have e : (1 : Int32) - nI (bT (zB σ)) = nI (1 - bT (zB σ)) := nI_sub1 hW.2.1
    simp only [a1, Option.bind_some, R1.2.1, e]
    refine ⟨_, ?_, M_done hI0 (Ag_trans hA0 (Ag_trans (AgS (by decide +kernel) a3) (AgS (by decide +kernel) t3))) t2 rfl (PAm_ag a2 t3 (by decide)) (RWm_ag (RWm_ag hI.2.2.2.1 a3 (by decide)) t3 (by decide))⟩
    rw [hI_sI, if_pos ⟨rfl, rfl⟩]
