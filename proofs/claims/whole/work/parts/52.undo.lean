/-! undone, kept; what was heard, what was seen; counts -/
def rbz (r : Bool × rb_H) : Int32 × rb_H := (rb_b2i r.1, r.2)
theorem O_undo : rb_op fB_undo fM_undo := by
  intro σ hσ
  have hW := hσ.1
  have hl := hσ.2.2.2.1.1
  by_cases hn : (zP σ).length = 0
  · refine ⟨-1, σ, hσ, fun h hI => ⟨h, ?_, C_ref hI⟩, fun h hI => ⟨_, ?_, M_ref hI⟩⟩
    · obtain ⟨f, hf, r1, r2, r3⟩ := hI.2.2.2.2.1
      unfold fB_undo fB_undo_0 fP_takeLatest fP_takeLatest_0
      rw [r2, hn, if_neg (by decide)]
      rfl
    · have hI := IM_thr hI
      unfold fM_undo fM_undo_0
      rw [if_pos (by rw [hI.2.2.2.2.1.1, hn]; rfl)]
  · have hlt : (zP σ).length - 1 < (zP σ).length := by omega
    have hb := hσ.2.2.2.1.2 _ (getD_mem (d := B0) hlt)
    generalize hB : (zP σ).getD ((zP σ).length - 1) B0 = B at hb
    have hs : sam (zB σ) B := ⟨hb.2.1, fun j hj => hb.2.2.2 j (by rw [hb.2.1]; exact hj)⟩
    have hlen : ((zP σ).take ((zP σ).length - 1)).length = (zP σ).length - 1 := by rw [List.length_take]; omega
    refine ⟨nI ((zP σ).length - 1), yT (yP (yB σ B) ((zP σ).take ((zP σ).length - 1))) (zT σ), WS_brp hσ hb.1 hs ⟨by omega, fun b q => hσ.2.2.2.1.2 b (List.mem_of_mem_take q)⟩ hσ.2.2.1, fun h hI => ?_, fun h0 hI0 => ?_⟩
    · obtain ⟨f, hf, r1, r2, r3⟩ := hI.2.2.2.2.1
      have hq : (f + ((zP σ).length - 1)) % 12 < 12 := Nat.mod_lt _ (by decide)
      have e1 : nI (zP σ).length - 1 = nI ((zP σ).length - 1) := by
        have := nI_pred ((zP σ).length - 1)
        rwa [show (zP σ).length - 1 + 1 = (zP σ).length by omega] at this
      have A0 : Ag [23] h (rb_sF h 23 2 (nI ((zP σ).length - 1))) := Ag_sF (by decide) (Ag_refl _ _)
      have hRS : RS (rb_sF h 23 2 (nI ((zP σ).length - 1))) (112 + 6 * ((f + ((zP σ).length - 1)) % 12)) B := RS_ag (by rw [← hB]; exact r3 _ hlt) A0 (by omega) (fun x hx z => by unfold sIds at hx; simp only [List.mem_cons, List.not_mem_nil, or_false] at hx z; omega)
      obtain ⟨h1, s1, s2, s3⟩ := S_copyFrom (o := 94) hRS hb.1 (by omega) (by decide)
      unfold fB_undo fB_undo_0 fP_takeLatest fP_takeLatest_0
      rw [r2, if_pos (show (1 : Int32) ≤ nI (zP σ).length from nI_le (a := 1) (by omega) (by omega)), e1]
      have e2 : rb_hF (rb_sF h 23 2 (nI ((zP σ).length - 1))) 23 1 = nI f := by rw [hF_sF, if_neg (by decide), r1]
      have e3 : rb_hF (rb_sF h 23 2 (nI ((zP σ).length - 1))) 23 2 = nI ((zP σ).length - 1) := by rw [hF_sF, if_pos ⟨rfl, rfl⟩]
      rw [e2, e3, nI_add, rem12 (by omega), if_neg (oob_n hq (by omega)), cl_n (by omega), ra24 _ hq, s1]
      simp only [Option.bind_some, if_true]
      have e4 : rb_hF h1 23 2 = nI ((zP σ).length - 1) := (AgF s3 (by decide)).trans e3
      have A1 : Ag fC h h1 := Ag_trans (AgS (by decide +kernel) A0) (AgS (by decide +kernel) s3)
      refine ⟨h1, by rw [e4], C_done hI A1 s2 ⟨f, hf, (AgF s3 (by decide)).trans e2, by rw [hlen]; exact e4, fun i hi => ?_⟩ (RWc_ag (RWc_ag hI.2.2.2.1 A0 (by decide)) s3 (by decide))⟩
      rw [hlen] at hi
      rw [getD_take hi]
      have : (f + i) % 12 < 12 := Nat.mod_lt _ (by decide)
      exact RS_ag (RS_ag (r3 i (by omega)) A0 (by omega) (fun x hx z => by unfold sIds at hx; simp only [List.mem_cons, List.not_mem_nil, or_false] at hx z; omega)) s3 (by omega) (fun x hx z => by unfold sIds at hx z; simp only [List.mem_cons, List.not_mem_nil, or_false] at hx z; omega)
    · have hI := IM_thr hI0
      have hA0 := thr_ag' h0
      unfold fM_undo fM_undo_0
      generalize rb_sF h0 49 7 0 = h at hI hA0 ⊢
      obtain ⟨p1, p2⟩ := hI.2.2.2.2.1
      have e1 : nI (zP σ).length - 1 = nI ((zP σ).length - 1) := by
        have := nI_pred ((zP σ).length - 1)
        rwa [show (zP σ).length - 1 + 1 = (zP σ).length by omega] at this
      rw [p1, if_neg (fun z => by have := (nI_eq (b := 0) (by omega) (by omega)).mp z; omega), e1]
      have A0 : Ag [1020] h (rb_sF h 49 20 (nI ((zP σ).length - 1))) := Ag_sF (by decide) (Ag_refl _ _)
      generalize hg : rb_sF h 49 20 (nI ((zP σ).length - 1)) = g at A0
      have g20 : rb_hF g 49 20 = nI ((zP σ).length - 1) := by rw [← hg, hF_sF, if_pos ⟨rfl, rfl⟩]
      have main : ∃ x, rb_iter rb_fuel (fun s => fM_undo_26b s.1 s.2) ((0 : Int32), g) = some x ∧ ((∀ i, i < 27 → rb_hI x 50 i = rb_hI g 58 (27 * ((zP σ).length - 1) + i)) ∧ Ag [50] g x) := by
        refine rb_runP (fun n s => s.1 = nI n ∧ (∀ i, i < n → rb_hI s.2 50 i = rb_hI g 58 (27 * ((zP σ).length - 1) + i)) ∧ Ag [50] g s.2) _ 27 ⟨rfl, fun i hi => absurd hi (Nat.not_lt_zero _), Ag_refl _ _⟩ (by omega) ?_ ?_
        · rintro n ⟨v, h1⟩ hn' ⟨e, q1, q2⟩
          dsimp only at e q1 q2 ⊢
          subst e
          unfold fM_undo_26b
          rw [if_neg (show ¬ (27 : Int32) ≤ nI n from nI_ge (b := 27) hn' (by omega)), AgF q2 (show fid 49 20 ∉ [50] by decide), g20, show (27 : Int32) * nI ((zP σ).length - 1) = nI (27 * ((zP σ).length - 1)) from pk_mul 27 _, nI_add, if_neg (oob_n (show 27 * ((zP σ).length - 1) + n < 324 by omega) (by omega)), if_neg (oob_n hn' (by omega)), cl_n (by omega), cl_n (by omega), nI_1]
          refine ⟨_, rfl, rfl, fun i hi => ?_, Ag_sI (by simp) q2⟩
          rw [hI_sI]
          by_cases e : i = n
          · subst e
            rw [if_pos ⟨rfl, rfl⟩]
            exact AgI q2 (by decide) _
          · rw [if_neg (by omega)]
            exact q1 i (by omega)
        · rintro ⟨v, h1⟩ ⟨e, q1, q2⟩
          dsimp only at e q1 q2 ⊢
          subst e
          unfold fM_undo_26b
          rw [if_pos (by decide)]
          exact ⟨_, rfl, q1, q2⟩
      obtain ⟨x, m1, m2, m3⟩ := main
      rw [m1]
      simp only [Option.bind_some]
      have G : RG x 50 0 B := by
        have g := RG_ag (p2 _ hlt) A0 (by decide)
        rw [hB] at g
        exact RG_lay g hb.1.1 (fun i hi => by rw [Nat.zero_add]; exact m2 i hi)
      have N : RN x B := by
        have r := RN_ag (RN_ag (RM_iff.mp hI.1).1 A0 (by decide)) m3 (by decide)
        exact ⟨by rw [r.1, hs.1], fun i hi => by rw [r.2 i (by rw [← hs.1]; exact hi), hs.2 i (by rw [← hs.1]; exact hi)]⟩
      refine ⟨x, by rw [AgF m3 (show fid 49 20 ∉ [50] by decide), g20], M_done hI0 (Ag_trans hA0 (Ag_trans (AgS (by decide +kernel) A0) (AgS (by decide +kernel) m3))) (RM_iff.mpr ⟨N, G⟩) hs.1 ⟨?_, fun i hi => ?_⟩ (RWm_ag (RWm_ag hI.2.2.2.1 A0 (by decide)) m3 (by decide))⟩
      · rw [hlen, AgF m3 (show fid 49 20 ∉ [50] by decide), g20]
      · rw [hlen] at hi
        rw [getD_take hi]
        exact RG_ag (RG_ag (p2 i (by omega)) A0 (by decide)) m3 (by decide)
theorem ra25 : ∀ q, q < 2 → rb_ra 25 q = 184 + 6 * q := by decide +kernel
def kpK (K : Nat → Option sBd) (i : Nat) (B : sBd) : Nat → Option sBd := fun j => if j = i then some B else K j
theorem vp_b1 : vp_nar .boolean 1 = 1 := by decide
theorem vp_b0 : vp_nar .boolean 0 = 0 := by decide
theorem O_keep (v : Int32) : rb_op (fun h => (fB_keep v h).map rbz) (fun h => (fM_keep v h).map rbz) := by
  intro σ hσ
  have hW := hσ.1
  rcases rg_or v (n := 1) (by omega) with ⟨k, hk, rfl⟩ | hv
  · refine ⟨1, yK σ (kpK (zK σ) k (zB σ)), ⟨hσ.1, hσ.2.1, hσ.2.2.1, hσ.2.2.2.1, fun i hi b hb => ?_, hσ.2.2.2.2.2.1, hσ.2.2.2.2.2.2⟩, fun h hI => ?_, fun h0 hI0 => ?_⟩
    · have hb : (if i = k then some (zB σ) else zK σ i) = some b := hb
      by_cases e : i = k
      · rw [if_pos e] at hb
        cases hb
        exact ⟨hW, Nat.le_refl _, fun _ _ => rfl⟩
      · rw [if_neg e] at hb
        exact hσ.2.2.2.2.1 i hi b hb
    · obtain ⟨h1, s1, s2, s3⟩ := S_copyFrom (o := 184 + 6 * k) hI.1 hW (by omega) (by omega)
      have hm : ∀ x, x ∈ sIds (184 + 6 * k) → x ∈ pK := fun x hx => by
        unfold sIds at hx
        unfold pK
        simp only [List.mem_cons, List.not_mem_nil, or_false] at hx ⊢
        omega
      have A : Ag pK h (rb_sI h1 26 k 1) := Ag_sI (by decide) (Ag_mono hm s3)
      unfold fB_keep fB_keep_0
      try dsimp only
      rw [if_neg (nI_pos (by omega)), if_pos (show nI k < (2 : Int32) from nI_lt (b := 2) (by omega) (by omega)), if_neg (oob_n (show k < 2 by omega) (by omega))]
      simp only [cl_n (show k < 2 ^ 31 by omega)]
      rw [ra25 _ (by omega), s1]
      simp only [Option.bind_some, if_neg (oob_n (show k < 2 by omega) (by omega)), vp_b1, Option.map_some]
      refine ⟨_, rfl, ⟨RSn_ag hI.1 A (by decide +kernel), RuCn_ag hI.2.1 A (by decide +kernel), TXc_ag hI.2.2.1 A (by decide +kernel), RWc_ag hI.2.2.2.1 A (by decide +kernel), PAc_ag hI.2.2.2.2.1 A (by decide +kernel), fun i hi => ?_, FAc_ag hI.2.2.2.2.2.2.1 A (by decide) (by decide +kernel), FAc_ag hI.2.2.2.2.2.2.2 A (by decide) (by decide +kernel)⟩, AgS (by decide +kernel) A⟩
      have t26 : ∀ {b : sBd} {o : Nat}, 184 ≤ o → RS h1 o b → RS (rb_sI h1 26 k 1) o b := fun ho hr => RS_ag (L := [26]) hr (Ag_sI (by simp) (Ag_refl _ _)) (by omega) (fun x hx z => by unfold sIds at hx; simp only [List.mem_cons, List.not_mem_nil, or_false] at hx z; omega)
      show ((if i = k then some (zB σ) else zK σ i) = none → _) ∧ ∀ b, (if i = k then some (zB σ) else zK σ i) = some b → _
      by_cases e : i = k
      · rw [if_pos e]
        refine ⟨fun z => (by cases z), fun b hb => ?_⟩
        cases hb
        rw [hI_sI, if_pos ⟨rfl, e⟩, e]
        exact ⟨rfl, t26 (by omega) s2⟩
      · rw [if_neg e]
        obtain ⟨q1, q2⟩ := hI.2.2.2.2.2.1 i hi
        have e26 : rb_hI (rb_sI h1 26 k 1) 26 i = rb_hI h 26 i := by rw [hI_sI, if_neg (fun z => e z.2)]; exact AgI s3 (by unfold sIds; simp only [List.mem_cons, List.not_mem_nil, or_false]; omega) i
        refine ⟨fun z => e26.trans (q1 z), fun b hb => ⟨e26.trans (q2 b hb).1, t26 (by omega) (RS_ag (q2 b hb).2 s3 (by omega) (fun x hx z => by unfold sIds at hx z; simp only [List.mem_cons, List.not_mem_nil, or_false] at hx z; omega))⟩⟩
    · have hI := IM_thr hI0
      have hA0 := thr_ag h0
      unfold fM_keep fM_keep_0
      try dsimp only
      rw [M_in_y (n := 1) (M := 1) hk (by omega) rfl, if_pos rfl, if_neg (oob_n (show k < 2 by omega) (by omega)), if_neg (oob_n (show k < 2 by omega) (by omega))]
      simp only [cl_n (show k < 2 ^ 31 by omega)]
      rw [show (27 : Int32) * nI k = nI (27 * k) from pk_mul 27 k, vp_b1]
      generalize rb_sF h0 49 7 0 = h at hI hA0 ⊢
      obtain ⟨c, hc, k1, k2⟩ := hI.2.2.2.2.2.1
      have e42 : rb_hF (rb_sI h 91 k 1) 49 42 = nI c := k1
      rw [e42]
      have A1 : Ag [91, 92] h (rb_sI (rb_sI h 91 k 1) 92 k (nI c)) := Ag_sI (by simp) (Ag_sI (by simp) (Ag_refl _ _))
      have B91 : ∀ i, rb_hI (rb_sI (rb_sI h 91 k 1) 92 k (nI c)) 91 i = if i = k then 1 else rb_hI h 91 i := fun i => by simp [hI_sI]
      have B92 : ∀ i, rb_hI (rb_sI (rb_sI h 91 k 1) 92 k (nI c)) 92 i = if i = k then nI c else rb_hI h 92 i := fun i => by simp [hI_sI]
      generalize rb_sI (rb_sI h 91 k 1) 92 k (nI c) = g at A1 B91 B92 ⊢
      obtain ⟨h1, s1, s2, s3, s4⟩ := M_lay (h := g) (o1 := 50) (o2 := 90) (k := 27 * k) (by decide) (by show 27 * k + 27 ≤ 54; omega) (by show 54 < _; omega)
      rw [s1]
      simp only [Option.bind_some, Option.map_some]
      have A : Ag [90, 91, 92] h h1 := Ag_trans (AgS (by decide) A1) (AgS (by decide) s4)
      refine ⟨h1, rfl, ⟨RMn_ag hI.1 A (by decide), RuMn_ag hI.2.1 A (by decide), TXm_ag hI.2.2.1 A (by decide), RWm_ag hI.2.2.2.1 A (by decide), PAm_ag hI.2.2.2.2.1 A (by decide), ⟨c, hc, (AgF A (by decide)).trans k1, fun i hi => ?_⟩, FAm_ag hI.2.2.2.2.2.2.1 A (by decide), FAm_ag hI.2.2.2.2.2.2.2.1 A (by decide), RX_ag hI.2.2.2.2.2.2.2.2 A (by decide)⟩, Ag_trans (AgS (by decide +kernel) hA0) (AgS (by decide +kernel) A)⟩
      show ((if i = k then some (zB σ) else zK σ i) = none → _) ∧ ∀ b, (if i = k then some (zB σ) else zK σ i) = some b → _
      have f91 : rb_hI h1 91 i = if i = k then 1 else rb_hI h 91 i := (AgI s4 (by decide) i).trans (B91 i)
      have f92 : rb_hI h1 92 i = if i = k then nI c else rb_hI h 92 i := (AgI s4 (by decide) i).trans (B92 i)
      by_cases e : i = k
      · rw [if_pos e] at f91 f92
        rw [if_pos e]
        refine ⟨fun z => (by cases z), fun b hb => ?_⟩
        cases hb
        refine ⟨f91, ?_, c, Nat.le_refl _, f92, ⟨fun _ => rfl, fun _ => rfl⟩⟩
        rw [e]
        refine RG_lay (RG_ag (RM_iff.mp hI.1).2 A1 (by decide)) hW.1 (fun j hj => ?_)
        rw [Nat.zero_add]
        exact s2 j hj
      · rw [if_neg e] at f91 f92
        rw [if_neg e]
        obtain ⟨q1, q2⟩ := k2 i hi
        refine ⟨fun z => f91.trans (q1 z), fun b hb => ?_⟩
        obtain ⟨w1, w2, kk, w3, w4, w5⟩ := q2 b hb
        refine ⟨f91.trans w1, ?_, kk, w3, f92.trans w4, w5⟩
        refine RG_lay w2 (hσ.2.2.2.2.1 i hi b hb).1.1 (fun j hj => ?_)
        rw [s3 _ (by omega)]
        exact AgI A1 (by decide) _
  · refine ⟨0, σ, hσ, fun h hI => ⟨h, ?_, C_ref hI⟩, fun h hI => ⟨_, ?_, M_ref hI⟩⟩
    · unfold fB_keep fB_keep_0
      try dsimp only
      rcases hv with hv | ⟨hv, hv2⟩
      · rw [if_pos hv]; rfl
      · rw [if_neg hv, if_neg]; · rfl
        · intro z
          obtain ⟨j, hj, rfl⟩ := nI_of hv
          have z : nI j < nI 2 := z
          rw [nI_ltI hj (by omega)] at z
          rw [nI_ltI (by omega) hj] at hv2
          omega
    · unfold fM_keep fM_keep_0
      try dsimp only
      rw [M_in_no (M := 1) hv]; rfl
