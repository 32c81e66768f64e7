theorem O_again (v : Int32) : rb_op (fun h => (fB_again v h).map rbz) (fun h => (fM_again v h).map rbz) := by
  intro σ hσ
  have hW := hσ.1
  rcases rg_or v (n := 1) (by omega) with ⟨k, hk, rfl⟩ | hv
  · have e27 : (27 : Int32) * nI k = nI (27 * k) := pk_mul 27 k
    have no : (∀ h, IC h σ → fB_again (nI k) h = some (false, h)) → (∀ h, IM h σ → fM_again (nI k) h = some (false, rb_sF h 49 7 0)) → ∃ (r : Int32) (σ' : sSt), WS σ' ∧ (∀ h, IC h σ → ∃ h', (fB_again (nI k) h).map rbz = some (r, h') ∧ IC h' σ' ∧ Ag cC h h') ∧ ∀ h, IM h σ → ∃ h', (fM_again (nI k) h).map rbz = some (r, h') ∧ IM h' σ' ∧ Ag cM h h' := fun a b => ⟨0, σ, hσ, fun h hI => ⟨h, by rw [a h hI]; rfl, C_ref hI⟩, fun h hI => ⟨_, by rw [b h hI]; rfl, M_ref hI⟩⟩
    cases hK : zK σ k with
    | none =>
      refine no (fun h hI => ?_) (fun h hI => ?_)
      · unfold fB_again fB_again_0
        try dsimp only
        rw [if_neg (nI_pos (by omega)), if_neg (show ¬ (2 : Int32) ≤ nI k from nI_ge (b := 2) (by omega) (by omega)), if_neg (oob_n (show k < 2 by omega) (by omega))]
        simp only [cl_n (show k < 2 ^ 31 by omega)]
        rw [if_pos ((hI.2.2.2.2.2.1 k (by omega)).1 hK)]
      · have hI := IM_thr hI
        obtain ⟨c, hc, k1, k2⟩ := hI.2.2.2.2.2.1
        unfold fM_again fM_again_0
        try dsimp only
        rw [M_in_y (n := 1) (M := 1) hk (by omega) rfl, if_pos rfl, if_neg (oob_n (show k < 2 by omega) (by omega))]
        simp only [cl_n (show k < 2 ^ 31 by omega)]
        rw [if_pos ((k2 k (by omega)).1 hK)]
    | some b =>
      obtain ⟨wb, ab⟩ := hσ.2.2.2.2.1 k (by omega) b hK
      have wb8 := wb.1
      have wn8 := hW.1
      by_cases hn : bN b = bN (zB σ)
      · have hs : sam (zB σ) b := ⟨hn, fun j hj => ab.2 j (by rw [hn]; exact hj)⟩
        refine ⟨1, yT (yP (yB σ b) []) (zT σ), WS_brp hσ wb hs ⟨by simp, fun x hx => absurd hx List.not_mem_nil⟩ hσ.2.2.1, fun h hI => ?_, fun h0 hI0 => ?_⟩
        · obtain ⟨r1, r2⟩ := (hI.2.2.2.2.2.1 k (by omega)).2 b hK
          obtain ⟨f, hf, p1, p2, p3⟩ := hI.2.2.2.2.1
          obtain ⟨h1, s1, s2, s3⟩ := S_copyFrom (o := 94) r2 wb (by omega) (by decide)
          unfold fB_again fB_again_0
          try dsimp only
          rw [if_neg (nI_pos (by omega)), if_neg (show ¬ (2 : Int32) ≤ nI k from nI_ge (b := 2) (by omega) (by omega)), if_neg (oob_n (show k < 2 by omega) (by omega))]
          simp only [cl_n (show k < 2 ^ 31 by omega)]
          rw [r1, if_neg (by decide), if_neg (oob_n (show k < 2 by omega) (by omega)), ra25 _ (by omega), if_pos (by rw [r2.1, hI.1.1, hn]), if_neg (oob_n (show k < 2 by omega) (by omega)), s1]
          unfold fP_forgetAll fP_forgetAll_0
          simp only [Option.bind_some, rb_lt, Option.map_some]
          have A0 : Ag [23] h1 (rb_sF h1 23 2 0) := Ag_sF (by decide) (Ag_refl _ _)
          exact ⟨_, rfl, C_done hI (Ag_trans (AgS (by decide +kernel) s3) (AgS (by decide +kernel) A0)) (RSn_ag s2 A0 (by decide)) ⟨f, hf, by rw [hF_sF, if_neg (by decide), AgF s3 (by decide), p1], by rw [hF_sF, if_pos ⟨rfl, rfl⟩]; rfl, fun i hi => absurd hi (Nat.not_lt_zero _)⟩ (RWc_ag (RWc_ag hI.2.2.2.1 s3 (by decide)) A0 (by decide))⟩
        · have hI := IM_thr hI0
          have hA0 := thr_ag' h0
          unfold fM_again fM_again_0
          try dsimp only
          rw [M_in_y (n := 1) (M := 1) hk (by omega) rfl, if_pos rfl, if_neg (oob_n (show k < 2 by omega) (by omega))]
          simp only [cl_n (show k < 2 ^ 31 by omega)]
          rw [if_neg (oob_n (show k < 2 by omega) (by omega))]
          generalize rb_sF h0 49 7 0 = h at hI hA0 ⊢
          obtain ⟨c, hc, k1, k2⟩ := hI.2.2.2.2.2.1
          obtain ⟨w1, w2, kk, w3, w4, w5⟩ := (k2 k (by omega)).2 b hK
          rw [w1, if_neg (by decide), w4, k1, w5.mpr hn, if_pos rfl]
          have main : ∃ x, rb_iter rb_fuel (fun s => fM_again_40b (nI k) s.1 s.2) ((0 : Int32), h) = some x ∧ ((∀ i, i < 27 → rb_hI x 50 i = rb_hI h 90 (27 * k + i)) ∧ Ag [50] h x) := by
            refine rb_runP (fun n s => s.1 = nI n ∧ (∀ i, i < n → rb_hI s.2 50 i = rb_hI h 90 (27 * k + i)) ∧ Ag [50] h s.2) _ 27 ⟨rfl, fun i hi => absurd hi (Nat.not_lt_zero _), Ag_refl _ _⟩ (by omega) ?_ ?_
            · rintro n ⟨v, h1⟩ hn' ⟨e, q1, q2⟩
              dsimp only at e q1 q2 ⊢
              subst e
              unfold fM_again_40b
              rw [if_neg (show ¬ (27 : Int32) ≤ nI n from nI_ge (b := 27) hn' (by omega)), e27, nI_add, if_neg (oob_n (show 27 * k + n < 54 by omega) (by omega)), if_neg (oob_n hn' (by omega)), cl_n (by omega), cl_n (by omega), nI_1]
              refine ⟨_, rfl, rfl, fun i hi => ?_, Ag_sI (by simp) q2⟩
              rw [hI_sI]
              by_cases e : i = n
              · subst e
                rw [if_pos ⟨rfl, rfl⟩]
                exact AgI q2 (by decide) _
              · rw [if_neg (by omega)]
                exact q1 i (by omega)
            · rintro ⟨v, h1⟩ ⟨e, q1, q2⟩
              dsimp only at e q1 q2 ⊢
              subst e
              unfold fM_again_40b
              rw [if_pos (by decide)]
              exact ⟨_, rfl, q1, q2⟩
          obtain ⟨x, m1, m2, m3⟩ := main
          rw [m1]
          simp only [Option.bind_some, Option.map_some]
          have A0 : Ag [1020] x (rb_sF x 49 20 0) := Ag_sF (by decide) (Ag_refl _ _)
          have G : RG x 50 0 b := RG_lay w2 wb.1 (fun i hi => by rw [Nat.zero_add]; exact m2 i hi)
          have N : RN x b := by
            have r := RN_ag (RM_iff.mp hI.1).1 m3 (by decide)
            exact ⟨by rw [r.1, hs.1], fun i hi => by rw [r.2 i (by rw [← hs.1]; exact hi), hs.2 i (by rw [← hs.1]; exact hi)]⟩
          exact ⟨_, rfl, M_done hI0 (Ag_trans hA0 (Ag_trans (AgS (by decide +kernel) m3) (AgS (by decide +kernel) A0))) (RMn_ag (RM_iff.mpr ⟨N, G⟩) A0 (by decide)) hs.1 ⟨by rw [hF_sF, if_pos ⟨rfl, rfl⟩]; rfl, fun i hi => absurd hi (Nat.not_lt_zero _)⟩ (RWm_ag (RWm_ag hI.2.2.2.1 m3 (by decide)) A0 (by decide))⟩
      · refine no (fun h hI => ?_) (fun h hI => ?_)
        · obtain ⟨r1, r2⟩ := (hI.2.2.2.2.2.1 k (by omega)).2 b hK
          unfold fB_again fB_again_0
          try dsimp only
          rw [if_neg (nI_pos (by omega)), if_neg (show ¬ (2 : Int32) ≤ nI k from nI_ge (b := 2) (by omega) (by omega)), if_neg (oob_n (show k < 2 by omega) (by omega))]
          simp only [cl_n (show k < 2 ^ 31 by omega)]
          rw [r1, if_neg (by decide), if_neg (oob_n (show k < 2 by omega) (by omega)), ra25 _ (by omega), if_neg]
          rw [r2.1, hI.1.1]
          exact fun z => hn ((nI_eq (by omega) (by omega)).mp z)
        · have hI := IM_thr hI
          obtain ⟨c, hc, k1, k2⟩ := hI.2.2.2.2.2.1
          obtain ⟨w1, w2, kk, w3, w4, w5⟩ := (k2 k (by omega)).2 b hK
          unfold fM_again fM_again_0
          try dsimp only
          rw [M_in_y (n := 1) (M := 1) hk (by omega) rfl, if_pos rfl, if_neg (oob_n (show k < 2 by omega) (by omega))]
          simp only [cl_n (show k < 2 ^ 31 by omega)]
          rw [w1, if_neg (by decide), if_neg (oob_n (show k < 2 by omega) (by omega)), if_neg]
          rw [w4, k1]
          exact fun z => hn (w5.mp ((nI_eq (by omega) (by omega)).mp z))
  · refine ⟨0, σ, hσ, fun h hI => ⟨h, ?_, C_ref hI⟩, fun h hI => ⟨_, ?_, M_ref hI⟩⟩
    · unfold fB_again fB_again_0
      try dsimp only
      rcases hv with hv | ⟨hv, hv2⟩
      · rw [if_pos hv]; rfl
      · rw [if_neg hv, if_pos]; · rfl
        · obtain ⟨j, hj, rfl⟩ := nI_of hv
          rw [nI_ltI (by omega) hj] at hv2
          exact nI_le (a := 2) (by omega) hj
    · unfold fM_again fM_again_0
      try dsimp only
      rw [M_in_no (M := 1) hv]; rfl
/-! what was heard, what was seen -/
section
variable {h : rb_H} {H : List (Nat × Nat)}
theorem C_fact {o most : Nat} (hF : FAc h o most H) (hl : H.length < most) (hm : most ≤ 12) (ho : o ≠ 49) (x y : Nat) : ∃ h', fF_add o (nI x) (nI y) h = some (nI (H.length + 1), h') ∧ FAc h' o most (H ++ [(x, y)]) ∧ Ag [o, o + 1, o + 2] h h' := by
  obtain ⟨f0, f3, f⟩ := hF
  unfold fF_add fF_add_0
  have n0 : ¬ o + 2 = o + 1 := by omega
  have n1 : ¬ o + 1 = o + 2 := by omega
  rw [f0, f3, if_neg (nI_ge hl (by omega)), if_pos (show nI H.length < (12 : Int32) from nI_lt (b := 12) (by omega) (by omega)), if_neg (oob_n (show H.length < 12 by omega) (by omega)), cl_n (by omega), hF_sI, f3, if_neg (oob_n (show H.length < 12 by omega) (by omega)), cl_n (by omega)]
  have mo : ∀ k, fid o k ∈ [o, o + 1, o + 2] := fun k => by unfold fid; rw [if_neg ho]; simp
  refine ⟨_, congrArg some (Prod.ext ?_ rfl), ⟨?_, ?_, fun i hi => ?_⟩, Ag_sF (mo 3) (Ag_sI (by simp) (Ag_sI (by simp) (Ag_refl _ _)))⟩
  · simp only [hI_sI, hI_sJ, hI_sF, hI_sR, hI_cp, hJ_sI, hJ_sJ, hJ_sF, hJ_sR, hJ_cp, hF_sI, hF_sJ, hF_sF, hF_sR, hF_cp, hR_sI, hR_sJ, hR_sF, hR_sR, hR_cp]
    simp [f3, nI_1]
  · simp only [hI_sI, hI_sJ, hI_sF, hI_sR, hI_cp, hJ_sI, hJ_sJ, hJ_sF, hJ_sR, hJ_cp, hF_sI, hF_sJ, hF_sF, hF_sR, hF_cp, hR_sI, hR_sJ, hR_sF, hR_sR, hR_cp]
    simp [f0]
  · simp only [hI_sI, hI_sJ, hI_sF, hI_sR, hI_cp, hJ_sI, hJ_sJ, hJ_sF, hJ_sR, hJ_cp, hF_sI, hF_sJ, hF_sF, hF_sR, hF_cp, hR_sI, hR_sJ, hR_sF, hR_sR, hR_cp]
    simp [f3, nI_1]
  · rw [getD_app]
    simp only [List.length_append, List.length_cons, List.length_nil] at hi
    simp only [hI_sI, hI_sJ, hI_sF, hI_sR, hI_cp, hJ_sI, hJ_sJ, hJ_sF, hJ_sR, hJ_cp, hF_sI, hF_sJ, hF_sF, hF_sR, hF_cp, hR_sI, hR_sJ, hR_sF, hR_sR, hR_cp, n0, n1, false_and, true_and, if_false]
    by_cases e : i = H.length
    · simp [e]
    · simp only [if_neg e, if_pos (show i < H.length by omega)]
      exact f i (by omega)
theorem C_fact_no {o most : Nat} (hF : FAc h o most H) (hl : H.length = most) (hm : most ≤ 12) (x y : Int32) : fF_add o x y h = some (-1, h) := by
  unfold fF_add fF_add_0
  rw [hF.1, hF.2.1, if_pos (by rw [hl]; exact Int32.le_refl _)]
theorem M_fact {f a b : Nat} (hF : FAm h f a b H) (hab : a ≠ b) (x y : Nat) : FAm (rb_sF (rb_sI (rb_sI h a H.length (nI x)) b H.length (nI y)) 49 f (nI (H.length + 1))) f a b (H ++ [(x, y)]) := by
  refine ⟨?_, fun i hi => ?_⟩
  · rw [hF_sF, if_pos ⟨rfl, rfl⟩]
    simp
  · rw [getD_app]
    simp only [List.length_append, List.length_cons, List.length_nil] at hi
    have hba : ¬ b = a := fun z => hab z.symm
    simp only [hI_sI, hI_sJ, hI_sF, hI_sR, hI_cp, hJ_sI, hJ_sJ, hJ_sF, hJ_sR, hJ_cp, hF_sI, hF_sJ, hF_sF, hF_sR, hF_cp, hR_sI, hR_sJ, hR_sF, hR_sR, hR_cp, hab, hba, false_and, true_and, if_false]
    by_cases e : i = H.length
    · simp [e]
    · simp only [if_neg e, if_pos (show i < H.length by omega)]
      exact hF.2 i (by omega)
end
theorem hiV_sv : ∀ w, w < 5 → rb_sv 7 w = nI (hiV w) ∧ hiV w ≤ 9 := by decide +kernel
theorem hiV_M : ∀ w, w < 5 → fM_highOf (nI w) = nI (hiV w) := by unfold fM_highOf fM_highOf_0; decide +kernel
theorem O_heard (x y : Int32) : rb_op (fB_heard x y) (fM_heard x y) := by
  intro σ hσ
  have no : (∀ h, IC h σ → fB_heard x y h = some (-1, h)) → (∀ h, IM h σ → fM_heard x y h = some (-1, rb_sF h 49 7 0)) → ∃ (r : Int32) (σ' : sSt), WS σ' ∧ (∀ h, IC h σ → ∃ h', fB_heard x y h = some (r, h') ∧ IC h' σ' ∧ Ag cC h h') ∧ ∀ h, IM h σ → ∃ h', fM_heard x y h = some (r, h') ∧ IM h' σ' ∧ Ag cM h h' := fun a b => ⟨-1, σ, hσ, fun h hI => ⟨h, a h hI, C_ref hI⟩, fun h hI => ⟨_, b h hI, M_ref hI⟩⟩
  have hl := hσ.2.2.2.2.2.1.1
  rcases rg_or x (n := 4) (by omega) with ⟨w, hw, rfl⟩ | hx
  · have w5 : ¬ (5 : Int32) ≤ nI w := nI_ge (b := 5) (by omega) (by omega)
    have i1 : fM_in (nI w) 0 4 = true := M_in_y hw (by omega) rfl
    obtain ⟨sv, h9⟩ := hiV_sv w (by omega)
    rcases rg_or y (n := hiV w) (by omega) with ⟨v, hv, rfl⟩ | hy
    · have i2 : fM_in (nI v) 0 (nI (hiV w)) = true := M_in_y hv (by omega) rfl
      by_cases hf : (zH σ).length = 12
      · refine no (fun h hI => ?_) (fun h hI => ?_)
        · unfold fB_heard fB_heard_0
          rw [if_neg (nI_pos (by omega)), if_neg w5, if_neg (nI_pos (by omega)), if_neg (oob_n (show w < 5 by omega) (by omega)), cl_n (by omega), sv, if_pos (nI_le hv (by omega)), C_fact_no hI.2.2.2.2.2.2.1 hf (by omega)]
          rfl
        · have hI := IM_thr hI
          unfold fM_heard fM_heard_0
          rw [i1, if_pos rfl, hiV_M w (by omega)]
          simp only [rb_lt]
          rw [i2, if_pos rfl, hI.2.2.2.2.2.2.1.1, hf, if_pos (by decide)]
      · refine ⟨nI ((zH σ).length + 1), yH σ (zH σ ++ [(w, v)]), ⟨hσ.1, hσ.2.1, hσ.2.2.1, hσ.2.2.2.1, hσ.2.2.2.2.1, ⟨?_, fun q hq => ?_⟩, hσ.2.2.2.2.2.2⟩, fun h hI => ?_, fun h0 hI0 => ?_⟩
        · show (zH σ ++ [(w, v)]).length ≤ 12
          simp; omega
        · rcases List.mem_append.mp hq with hq | hq
          · exact hσ.2.2.2.2.2.1.2 q hq
          · rw [List.mem_singleton.mp hq]
            exact ⟨hw, hv⟩
        · obtain ⟨h1, a1, a2, a3⟩ := C_fact hI.2.2.2.2.2.2.1 (by omega) (by omega) (by decide) w v
          unfold fB_heard fB_heard_0
          rw [if_neg (nI_pos (by omega)), if_neg w5, if_neg (nI_pos (by omega)), if_neg (oob_n (show w < 5 by omega) (by omega)), cl_n (by omega), sv, if_pos (nI_le hv (by omega)), a1]
          exact ⟨h1, rfl, ⟨RSn_ag hI.1 a3 (by decide), RuCn_ag hI.2.1 a3 (by decide), TXc_ag hI.2.2.1 a3 (by decide), RWc_ag hI.2.2.2.1 a3 (by decide), PAc_ag hI.2.2.2.2.1 a3 (by decide +kernel), KPc_ag hI.2.2.2.2.2.1 a3 (by decide), a2, FAc_ag hI.2.2.2.2.2.2.2 a3 (by decide) (by decide)⟩, AgS (by decide +kernel) a3⟩
        · have hI := IM_thr hI0
          have hA0 := thr_ag h0
          unfold fM_heard fM_heard_0
          rw [i1, if_pos rfl, hiV_M w (by omega)]
          simp only [rb_lt]
          rw [i2, if_pos rfl]
          generalize rb_sF h0 49 7 0 = h at hI hA0 ⊢
          have e := hI.2.2.2.2.2.2.1.1
          have A : Ag [84, 85, 1035] h (rb_sF (rb_sI (rb_sI h 84 (zH σ).length (nI w)) 85 (zH σ).length (nI v)) 49 35 (nI ((zH σ).length + 1))) := Ag_sF (by decide) (Ag_sI (by decide) (Ag_sI (by decide) (Ag_refl _ _)))
          have F := M_fact hI.2.2.2.2.2.2.1 (by decide) w v
          simp only [hI_sI, hI_sJ, hI_sF, hI_sR, hI_cp, hJ_sI, hJ_sJ, hJ_sF, hJ_sR, hJ_cp, hF_sI, hF_sJ, hF_sF, hF_sR, hF_cp, hR_sI, hR_sJ, hR_sF, hR_sR, hR_cp, e, cl_n (show (zH σ).length < 2 ^ 31 by omega), if_neg (oob_n (show (zH σ).length < 12 by omega) (by omega)), nI_1, true_and, if_true, and_self]
          rw [if_neg (show ¬ nI (zH σ).length = 12 from fun z => hf ((nI_eq (b := 12) (by omega) (by omega)).mp z))]
          exact ⟨_, rfl, ⟨RMn_ag hI.1 A (by decide), RuMn_ag hI.2.1 A (by decide), TXm_ag hI.2.2.1 A (by decide), RWm_ag hI.2.2.2.1 A (by decide), PAm_ag hI.2.2.2.2.1 A (by decide), KPm_ag hI.2.2.2.2.2.1 A (by decide), F, FAm_ag hI.2.2.2.2.2.2.2.1 A (by decide), RX_ag hI.2.2.2.2.2.2.2.2 A (by decide)⟩, Ag_trans (AgS (by decide +kernel) hA0) (AgS (by decide +kernel) A)⟩
    · refine no (fun h hI => ?_) (fun h hI => ?_)
      · unfold fB_heard fB_heard_0
        rw [if_neg (nI_pos (by omega)), if_neg w5]
        rcases hy with hy | ⟨hy, hy2⟩
        · rw [if_pos hy]
        · rw [if_neg hy, if_neg (oob_n (show w < 5 by omega) (by omega)), cl_n (by omega), sv, if_neg (Int32.not_le.mpr hy2)]
      · unfold fM_heard fM_heard_0
        rw [i1, if_pos rfl, hiV_M w (by omega)]
        simp only [rb_lt]
        rw [M_in_no hy, if_neg (by decide)]
  · refine no (fun h hI => ?_) (fun h hI => ?_)
    · unfold fB_heard fB_heard_0
      rcases hx with hx | ⟨hx, hx2⟩
      · rw [if_pos hx]
      · rw [if_neg hx, if_pos]
        obtain ⟨j, hj, rfl⟩ := nI_of hx
        have hx2 : nI 4 < nI j := hx2
        rw [nI_ltI (by omega) hj] at hx2
        exact nI_le (a := 5) (by omega) hj
    · unfold fM_heard fM_heard_0
      rw [M_in_no (M := 4) hx, if_neg (by decide)]
theorem O_saw (x y : Int32) : rb_op (fB_saw x y) (fM_saw x y) := by
  intro σ hσ
  have no : (∀ h, IC h σ → fB_saw x y h = some (-1, h)) → (∀ h, IM h σ → fM_saw x y h = some (-1, rb_sF h 49 7 0)) → ∃ (r : Int32) (σ' : sSt), WS σ' ∧ (∀ h, IC h σ → ∃ h', fB_saw x y h = some (r, h') ∧ IC h' σ' ∧ Ag cC h h') ∧ ∀ h, IM h σ → ∃ h', fM_saw x y h = some (r, h') ∧ IM h' σ' ∧ Ag cM h h' := fun a b => ⟨-1, σ, hσ, fun h hI => ⟨h, a h hI, C_ref hI⟩, fun h hI => ⟨_, b h hI, M_ref hI⟩⟩
  have hl := hσ.2.2.2.2.2.2.1
  rcases rg_or x (n := 2) (by omega) with ⟨w, hw, rfl⟩ | hx
  · have w5 : ¬ (2 : Int32) < nI w := nI_nlt (a := 2) hw (by omega)
    have i1 : fM_in (nI w) 0 2 = true := M_in_y hw (by omega) rfl
    rcases rg_or y (n := 20) (by omega) with ⟨v, hv, rfl⟩ | hy
    · have i2 : fM_in (nI v) 0 20 = true := M_in_y hv (by omega) rfl
      have v20 : nI v ≤ (20 : Int32) := nI_le (b := 20) hv (by omega)
      by_cases hf : (zS σ).length = 10
      · refine no (fun h hI => ?_) (fun h hI => ?_)
        · unfold fB_saw fB_saw_0
          rw [if_neg (nI_pos (by omega)), if_neg w5, if_neg (nI_pos (by omega)), if_pos v20, C_fact_no hI.2.2.2.2.2.2.2 hf (by omega)]
          rfl
        · have hI := IM_thr hI
          unfold fM_saw fM_saw_0
          rw [i1, if_pos rfl, i2, if_pos rfl, hI.2.2.2.2.2.2.2.1.1, hf, if_pos (by decide)]
      · refine ⟨nI ((zS σ).length + 1), yS σ (zS σ ++ [(w, v)]), ⟨hσ.1, hσ.2.1, hσ.2.2.1, hσ.2.2.2.1, hσ.2.2.2.2.1, hσ.2.2.2.2.2.1, ⟨?_, fun q hq => ?_⟩⟩, fun h hI => ?_, fun h0 hI0 => ?_⟩
        · show (zS σ ++ [(w, v)]).length ≤ 10
          simp; omega
        · rcases List.mem_append.mp hq with hq | hq
          · exact hσ.2.2.2.2.2.2.2 q hq
          · rw [List.mem_singleton.mp hq]
            exact ⟨hw, hv⟩
        · obtain ⟨h1, a1, a2, a3⟩ := C_fact hI.2.2.2.2.2.2.2 (by omega) (by omega) (by decide) w v
          unfold fB_saw fB_saw_0
          rw [if_neg (nI_pos (by omega)), if_neg w5, if_neg (nI_pos (by omega)), if_pos v20, a1]
          exact ⟨h1, rfl, ⟨RSn_ag hI.1 a3 (by decide), RuCn_ag hI.2.1 a3 (by decide), TXc_ag hI.2.2.1 a3 (by decide), RWc_ag hI.2.2.2.1 a3 (by decide), PAc_ag hI.2.2.2.2.1 a3 (by decide +kernel), KPc_ag hI.2.2.2.2.2.1 a3 (by decide), FAc_ag hI.2.2.2.2.2.2.1 a3 (by decide) (by decide), a2⟩, AgS (by decide +kernel) a3⟩
        · have hI := IM_thr hI0
          have hA0 := thr_ag h0
          unfold fM_saw fM_saw_0
          rw [i1, if_pos rfl, i2, if_pos rfl]
          generalize rb_sF h0 49 7 0 = h at hI hA0 ⊢
          have e := hI.2.2.2.2.2.2.2.1.1
          have A : Ag [86, 87, 1038] h (rb_sF (rb_sI (rb_sI h 86 (zS σ).length (nI w)) 87 (zS σ).length (nI v)) 49 38 (nI ((zS σ).length + 1))) := Ag_sF (by decide) (Ag_sI (by decide) (Ag_sI (by decide) (Ag_refl _ _)))
          have F := M_fact hI.2.2.2.2.2.2.2.1 (by decide) w v
          simp only [hI_sI, hI_sJ, hI_sF, hI_sR, hI_cp, hJ_sI, hJ_sJ, hJ_sF, hJ_sR, hJ_cp, hF_sI, hF_sJ, hF_sF, hF_sR, hF_cp, hR_sI, hR_sJ, hR_sF, hR_sR, hR_cp, e, cl_n (show (zS σ).length < 2 ^ 31 by omega), if_neg (oob_n (show (zS σ).length < 10 by omega) (by omega)), nI_1, true_and, if_true, and_self]
          rw [if_neg (show ¬ nI (zS σ).length = 10 from fun z => hf ((nI_eq (b := 10) (by omega) (by omega)).mp z))]
          exact ⟨_, rfl, ⟨RMn_ag hI.1 A (by decide), RuMn_ag hI.2.1 A (by decide), TXm_ag hI.2.2.1 A (by decide), RWm_ag hI.2.2.2.1 A (by decide), PAm_ag hI.2.2.2.2.1 A (by decide), KPm_ag hI.2.2.2.2.2.1 A (by decide), FAm_ag hI.2.2.2.2.2.2.1 A (by decide), F, RX_ag hI.2.2.2.2.2.2.2.2 A (by decide)⟩, Ag_trans (AgS (by decide +kernel) hA0) (AgS (by decide +kernel) A)⟩
    · refine no (fun h hI => ?_) (fun h hI => ?_)
      · unfold fB_saw fB_saw_0
        rw [if_neg (nI_pos (by omega)), if_neg w5]
        rcases hy with hy | ⟨hy, hy2⟩
        · rw [if_pos hy]
        · rw [if_neg hy, if_neg (show ¬ y ≤ (20 : Int32) from Int32.not_le.mpr hy2)]
      · unfold fM_saw fM_saw_0
        rw [i1, if_pos rfl, M_in_no (M := 20) hy, if_neg (by decide)]
  · refine no (fun h hI => ?_) (fun h hI => ?_)
    · unfold fB_saw fB_saw_0
      rcases hx with hx | ⟨hx, hx2⟩
      · rw [if_pos hx]
      · rw [if_neg hx, if_pos (show (2 : Int32) < x from hx2)]
    · unfold fM_saw fM_saw_0
      rw [M_in_no (M := 2) hx, if_neg (by decide)]
theorem O_forget : rb_op (fun h => some (fB_forget h)) (fun h => some (fM_forget h)) := by
  intro σ hσ
  refine ⟨nI (zH σ).length, yH σ [], ⟨hσ.1, hσ.2.1, hσ.2.2.1, hσ.2.2.2.1, hσ.2.2.2.2.1, ⟨by simp [yH, zH], fun q hq => absurd hq List.not_mem_nil⟩, hσ.2.2.2.2.2.2⟩, fun h hI => ?_, fun h hI => ?_⟩
  · have A : Ag [17] h (rb_sF h 17 3 0) := Ag_sF (by decide) (Ag_refl _ _)
    unfold fB_forget fB_forget_0 fF_forgetAll fF_forgetAll_0
    try dsimp only
    simp only [rb_lt, hI.2.2.2.2.2.2.1.2.1]
    exact ⟨_, rfl, ⟨RSn_ag hI.1 A (by decide), RuCn_ag hI.2.1 A (by decide), TXc_ag hI.2.2.1 A (by decide), RWc_ag hI.2.2.2.1 A (by decide), PAc_ag hI.2.2.2.2.1 A (by decide +kernel), KPc_ag hI.2.2.2.2.2.1 A (by decide), ⟨by rw [hF_sF, if_neg (by decide)]; exact hI.2.2.2.2.2.2.1.1, by rw [hF_sF, if_pos ⟨rfl, rfl⟩]; rfl, fun i hi => absurd hi (Nat.not_lt_zero _)⟩, FAc_ag hI.2.2.2.2.2.2.2 A (by decide) (by decide)⟩, AgS (by decide +kernel) A⟩
  · have hI0 := IM_thr hI
    have A : Ag [1035] (rb_sF h 49 7 0) (rb_sF (rb_sF h 49 7 0) 49 35 0) := Ag_sF (by decide) (Ag_refl _ _)
    unfold fM_forget fM_forget_0
    try dsimp only
    rw [hI0.2.2.2.2.2.2.1.1]
    exact ⟨_, rfl, ⟨RMn_ag hI0.1 A (by decide), RuMn_ag hI0.2.1 A (by decide), TXm_ag hI0.2.2.1 A (by decide), RWm_ag hI0.2.2.2.1 A (by decide), PAm_ag hI0.2.2.2.2.1 A (by decide), KPm_ag hI0.2.2.2.2.2.1 A (by decide), ⟨by rw [hF_sF, if_pos ⟨rfl, rfl⟩]; rfl, fun i hi => absurd hi (Nat.not_lt_zero _)⟩, FAm_ag hI0.2.2.2.2.2.2.2.1 A (by decide), RX_ag hI0.2.2.2.2.2.2.2.2 A (by decide)⟩, Ag_trans (AgS (by decide +kernel) (thr_ag h)) (AgS (by decide +kernel) A)⟩
theorem O_denies : rb_op (fun h => some (fB_denies h)) (fun h => some (fM_denies h)) := by
  intro σ hσ
  refine ⟨nI (zS σ).length, yS σ [], ⟨hσ.1, hσ.2.1, hσ.2.2.1, hσ.2.2.2.1, hσ.2.2.2.2.1, hσ.2.2.2.2.2.1, ⟨by simp [yS, zS], fun q hq => absurd hq List.not_mem_nil⟩⟩, fun h hI => ?_, fun h hI => ?_⟩
  · have A : Ag [20] h (rb_sF h 20 3 0) := Ag_sF (by decide) (Ag_refl _ _)
    unfold fB_denies fB_denies_0 fF_forgetAll fF_forgetAll_0
    try dsimp only
    simp only [rb_lt, hI.2.2.2.2.2.2.2.2.1]
    exact ⟨_, rfl, ⟨RSn_ag hI.1 A (by decide), RuCn_ag hI.2.1 A (by decide), TXc_ag hI.2.2.1 A (by decide), RWc_ag hI.2.2.2.1 A (by decide), PAc_ag hI.2.2.2.2.1 A (by decide +kernel), KPc_ag hI.2.2.2.2.2.1 A (by decide), FAc_ag hI.2.2.2.2.2.2.1 A (by decide) (by decide), ⟨by rw [hF_sF, if_neg (by decide)]; exact hI.2.2.2.2.2.2.2.1, by rw [hF_sF, if_pos ⟨rfl, rfl⟩]; rfl, fun i hi => absurd hi (Nat.not_lt_zero _)⟩⟩, AgS (by decide +kernel) A⟩
  · have hI0 := IM_thr hI
    have A : Ag [1038] (rb_sF h 49 7 0) (rb_sF (rb_sF h 49 7 0) 49 38 0) := Ag_sF (by decide) (Ag_refl _ _)
    unfold fM_denies fM_denies_0
    try dsimp only
    rw [hI0.2.2.2.2.2.2.2.1.1]
    exact ⟨_, rfl, ⟨RMn_ag hI0.1 A (by decide), RuMn_ag hI0.2.1 A (by decide), TXm_ag hI0.2.2.1 A (by decide), RWm_ag hI0.2.2.2.1 A (by decide), PAm_ag hI0.2.2.2.2.1 A (by decide), KPm_ag hI0.2.2.2.2.2.1 A (by decide), FAm_ag hI0.2.2.2.2.2.2.1 A (by decide), ⟨by rw [hF_sF, if_pos ⟨rfl, rfl⟩]; rfl, fun i hi => absurd hi (Nat.not_lt_zero _)⟩, RX_ag hI0.2.2.2.2.2.2.2.2 A (by decide)⟩, Ag_trans (AgS (by decide +kernel) (thr_ag h)) (AgS (by decide +kernel) A)⟩
