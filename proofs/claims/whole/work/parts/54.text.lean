/-! signs; the end; counts; sheets -/
/-- sign number i of four -/
def sgN (v : Int32) (i : Nat) : Nat := v.toBitVec.toNat / 2 ^ (24 - 8 * i) % 256
theorem sgN_lt (v : Int32) (i : Nat) : sgN v i < 256 := Nat.mod_lt _ (by decide)
theorem c16 : ∀ c, c < 256 → vp_nar .char (rb_i2c (nI c)) = nI c := by unfold rb_i2c; decide +kernel
theorem sg_C (v : Int32) {i : Nat} (hi : i < 4) : vp_nar .char (rb_i2c ((rb_ushr v ((24 : Int32) - ((8 : Int32) * nI i))) &&& (255 : Int32))) = nI (sgN v i) := by
  have e : (24 : Int32) - (8 : Int32) * nI i = nI (24 - 8 * i) := by
    rw [show (8 : Int32) * nI i = nI (8 * i) from pk_mul 8 i]
    exact nI_sub (a := 24) (by omega)
  rw [e, pk_and _ 8 (by decide)]
  have : (rb_ushr v (nI (24 - 8 * i))).toBitVec.toNat % 2 ^ 8 = sgN v i := by
    rw [ush_tb (by omega)]
    unfold sgN
    rw [BitVec.toNat_ushiftRight, Nat.shiftRight_eq_div_pow]
  rw [this]
  exact c16 _ (sgN_lt v i)
theorem i8_of {x y : Int32} (h : ∀ i, i < 8 → bt x i = bt y i) : rb_i2b x = rb_i2b y := by
  unfold rb_i2b
  have : x.toInt8 = y.toInt8 := by
    apply Int8.toBitVec_inj.mp
    apply BitVec.eq_of_getLsbD_eq
    intro i hi
    rw [Int32.toBitVec_toInt8, Int32.toBitVec_toInt8, BitVec.getLsbD_signExtend, BitVec.getLsbD_signExtend, if_pos (by omega), if_pos (by omega)]
    have := h i hi
    unfold bt at this
    rw [this]
  rw [this]
theorem nb2 (x : Int32) : vp_nar .byte (rb_i2b x) = rb_i2b x := fb_byte_twice x
theorem sg_M (v : Int32) {k : Nat} (hk : k < 4) : vp_nar .byte (rb_i2b (rb_shr v ((8 : Int32) * nI k))) = rb_i2b (nI (sgN v (3 - k))) := by
  rw [nb2, show (8 : Int32) * nI k = nI (8 * k) from pk_mul 8 k]
  have e : nI (sgN v (3 - k)) = rb_ushr v (nI (8 * k)) &&& 255 := by
    rw [pk_and _ 8 (by decide), ush_tb (by omega)]
    unfold sgN
    rw [BitVec.toNat_ushiftRight, Nat.shiftRight_eq_div_pow, show 24 - 8 * (3 - k) = 8 * k by omega]
  rw [e]
  refine i8_of (fun i hi => ?_)
  rw [b_and, b_255, decide_eq_true (show i < 8 from hi), Bool.and_true]
  have h1 : bt (rb_shr v (nI (8 * k))) i = _ := b_sshr (8 * k) (by omega) v (i := i) (by omega)
  have h2 : bt (rb_ushr v (nI (8 * k))) i = _ := b_ushr (8 * k) (by omega) v i
  rw [h1, h2, if_pos (by omega)]
/-- four more signs -/
def addX (X : List Nat) (v : Int32) : List Nat := X ++ [sgN v 0, sgN v 1, sgN v 2, sgN v 3]
theorem addX_len (X : List Nat) (v : Int32) : (addX X v).length = X.length + 4 := by simp [addX]
theorem addX_lo {X : List Nat} {v : Int32} {i : Nat} (h : i < X.length) : (addX X v).getD i 0 = X.getD i 0 := by
  unfold addX
  rw [List.getD_eq_getElem?_getD, List.getD_eq_getElem?_getD, List.getElem?_append, if_pos h]
theorem addX_hi {X : List Nat} {v : Int32} {j : Nat} (h : j < 4) : (addX X v).getD (X.length + j) 0 = sgN v j := by
  unfold addX
  rw [List.getD_eq_getElem?_getD, List.getElem?_append, if_neg (by omega), Nat.add_sub_cancel_left]
  rcases (show j = 0 ∨ j = 1 ∨ j = 2 ∨ j = 3 by omega) with rfl | rfl | rfl | rfl <;> rfl
def pC2 : List Nat := [94, 95, 96, 97, 98, 5, 6, 3, 4] ++ pP ++ pK ++ [17, 18, 19, 20, 21, 22]
def pM2 : List Nat := [1002, 50, 51, 1016, 2001, 55, 56, 1006, 53, 1020, 58, 1042, 90, 91, 92, 1035, 84, 85, 1038, 86, 87, 2002]
section
variable {L : List Nat} {h h' : rb_H} {σ : sSt} {X : List Nat}
theorem IC_text (hI : IC h σ) (hA : Ag L h h') (hL : NL pC2 L = true) (hX : TXc h' X) : IC h' (yX σ X) :=
  ⟨RSn_ag hI.1 hA (NL_sub hL (by decide +kernel)), RuCn_ag hI.2.1 hA (NL_sub hL (by decide +kernel)), hX, RWc_ag hI.2.2.2.1 hA (NL_sub hL (by decide +kernel)), PAc_ag hI.2.2.2.2.1 hA (NL_sub hL (by decide +kernel)), KPc_ag hI.2.2.2.2.2.1 hA (NL_sub hL (by decide +kernel)), FAc_ag hI.2.2.2.2.2.2.1 hA (by decide) (NL_sub hL (by decide +kernel)), FAc_ag hI.2.2.2.2.2.2.2 hA (by decide) (NL_sub hL (by decide +kernel))⟩
theorem IM_text (hI : IM h σ) (hA : Ag L h h') (hL : NL pM2 L = true) (hX : TXm h' X) : IM h' (yX σ X) :=
  ⟨RMn_ag hI.1 hA (NL_sub hL (by decide)), RuMn_ag hI.2.1 hA (NL_sub hL (by decide)), hX, RWm_ag hI.2.2.2.1 hA (NL_sub hL (by decide)), PAm_ag hI.2.2.2.2.1 hA (NL_sub hL (by decide)), KPm_ag hI.2.2.2.2.2.1 hA (NL_sub hL (by decide)), FAm_ag hI.2.2.2.2.2.2.1 hA (NL_sub hL (by decide)), FAm_ag hI.2.2.2.2.2.2.2.1 hA (NL_sub hL (by decide)), RX_ag hI.2.2.2.2.2.2.2.2 hA (NL_sub hL (by decide))⟩
theorem WS_text (hσ : WS σ) (h1 : X.length ≤ 80) (h2 : ∀ c, c ∈ X → c < 256) : WS (yX σ X) := ⟨hσ.1, ⟨h1, h2⟩, hσ.2.2⟩
end
theorem O_sign (v : Int32) : rb_op (fB_sign v) (fM_sign v) := by
  intro σ hσ
  have hl := hσ.2.1.1
  by_cases hf : (zX σ).length + 4 ≤ 80
  · refine ⟨nI ((zX σ).length + 4), yX σ (addX (zX σ) v), WS_text hσ (by rw [addX_len]; exact hf) (fun c hc => ?_), fun h hI => ?_, fun h0 hI0 => ?_⟩
    · unfold addX at hc
      rcases List.mem_append.mp hc with hc | hc
      · exact hσ.2.1.2 c hc
      · simp only [List.mem_cons, List.not_mem_nil, or_false] at hc
        rcases hc with rfl | rfl | rfl | rfl <;> exact sgN_lt _ _
    · obtain ⟨t1, t2⟩ := hI.2.2.1
      unfold fB_sign fB_sign_0 fT_addFour fT_addFour_0
      rw [t1, show (nI (zX σ).length + 4 : Int32) = nI ((zX σ).length + 4) from nI_add _ 4, if_pos (show nI ((zX σ).length + 4) ≤ (80 : Int32) from nI_le (b := 80) hf (by omega))]
      have main : ∃ x, rb_iter rb_fuel (fun s => fT_addFour_15b v s.1 s.2) ((0 : Int32), h) = some x ∧ (Ag [2] h x ∧ (∀ i, i < 4 → rb_hI x 2 ((zX σ).length + i) = nI (sgN v i)) ∧ ∀ i, i < (zX σ).length → rb_hI x 2 i = rb_hI h 2 i) := by
        refine rb_runP (fun n s => s.1 = nI n ∧ Ag [2] h s.2 ∧ (∀ i, i < n → rb_hI s.2 2 ((zX σ).length + i) = nI (sgN v i)) ∧ ∀ i, i < (zX σ).length → rb_hI s.2 2 i = rb_hI h 2 i) _ 4 ⟨rfl, Ag_refl _ _, fun i hi => absurd hi (Nat.not_lt_zero _), fun _ _ => rfl⟩ (by omega) ?_ ?_
        · rintro n ⟨w, h1⟩ hn ⟨e, q1, q2, q3⟩
          dsimp only at e q1 q2 q3 ⊢
          subst e
          unfold fT_addFour_15b
          rw [if_neg (show ¬ (4 : Int32) ≤ nI n from nI_ge (b := 4) hn (by omega)), AgF q1 (show fid 1 1 ∉ [2] by decide), t1, nI_add, if_neg (oob_n (show (zX σ).length + n < 80 by omega) (by omega)), cl_n (by omega), sg_C v hn, nI_1]
          refine ⟨_, rfl, rfl, Ag_sI (by simp) q1, fun i hi => ?_, fun i hi => ?_⟩
          · rw [hI_sI]
            by_cases e : i = n
            · subst e
              rw [if_pos ⟨rfl, rfl⟩]
            · rw [if_neg (by omega)]
              exact q2 i (by omega)
          · rw [hI_sI, if_neg (by omega)]
            exact q3 i hi
        · rintro ⟨w, h1⟩ ⟨e, q1, q2, q3⟩
          dsimp only at e q1 q2 q3 ⊢
          subst e
          unfold fT_addFour_15b
          rw [if_pos (by decide)]
          exact ⟨_, rfl, q1, q2, q3⟩
      obtain ⟨x, m1, m2, m3, m4⟩ := main
      rw [m1]
      simp only [Option.bind_some, if_true, AgF (a := 1) (i := 1) m2 (by decide), t1, show (nI (zX σ).length + 4 : Int32) = nI ((zX σ).length + 4) from nI_add _ 4]
      have A : Ag [1, 2] h (rb_sF x 1 1 (nI ((zX σ).length + 4))) := Ag_sF (by decide) (AgS (by decide) m2)
      refine ⟨_, congrArg some (Prod.ext (by rw [hF_sF, if_pos ⟨rfl, rfl⟩]) rfl), IC_text hI A (by decide +kernel) ⟨by rw [hF_sF, if_pos ⟨rfl, rfl⟩, addX_len], fun i hi => ?_⟩, AgS (by decide +kernel) A⟩
      rw [addX_len] at hi
      show rb_hI x 2 i = _
      by_cases e : i < (zX σ).length
      · rw [m4 i e, addX_lo e, t2 i e]
      · have := m3 (i - (zX σ).length) (by omega)
        have w := addX_hi (X := zX σ) (v := v) (j := i - (zX σ).length) (by omega)
        rw [show (zX σ).length + (i - (zX σ).length) = i by omega] at this w
        rw [this, w]
    · have hI := IM_thr hI0
      have hA0 := thr_ag h0
      unfold fM_sign fM_sign_0
      generalize rb_sF h0 49 7 0 = h at hI hA0 ⊢
      obtain ⟨t1, t2⟩ := hI.2.2.1
      rw [t1, show (nI (zX σ).length + 4 : Int32) = nI ((zX σ).length + 4) from nI_add _ 4, if_pos (show nI ((zX σ).length + 4) ≤ (80 : Int32) from nI_le (b := 80) hf (by omega))]
      have main : ∃ x, rb_iter rb_fuel (fun s => fM_sign_20b v s.1 s.2) ((3 : Int32), h) = some x ∧ (Ag [52, 1004] h x ∧ rb_hF x 49 4 = nI ((zX σ).length + 4) ∧ (∀ i, i < 4 → rb_hI x 52 ((zX σ).length + i) = rb_i2b (nI (sgN v i))) ∧ ∀ i, i < (zX σ).length → rb_hI x 52 i = rb_hI h 52 i) := by
        refine rb_runP (fun n s => s.1 = nI (4 - n) - 1 ∧ Ag [52, 1004] h s.2 ∧ rb_hF s.2 49 4 = nI ((zX σ).length + n) ∧ (∀ i, i < n → rb_hI s.2 52 ((zX σ).length + i) = rb_i2b (nI (sgN v i))) ∧ ∀ i, i < (zX σ).length → rb_hI s.2 52 i = rb_hI h 52 i) _ 4 ⟨rfl, Ag_refl _ _, t1, fun i hi => absurd hi (Nat.not_lt_zero _), fun _ _ => rfl⟩ (by omega) ?_ ?_
        · rintro n ⟨w, h1⟩ hn ⟨e, q1, q0, q2, q3⟩
          dsimp only at e q1 q0 q2 q3 ⊢
          have e' : w = nI (3 - n) := by rw [e, show 4 - n = (3 - n) + 1 by omega]; exact nI_pred _
          subst e'
          unfold fM_sign_20b
          rw [if_neg (nI_pos (by omega)), q0, if_neg (oob_n (show (zX σ).length + n < 80 by omega) (by omega)), cl_n (by omega), sg_M v (by omega), nI_1, show 3 - (3 - n) = n by omega]
          refine ⟨_, rfl, ?_, Ag_sI (by simp) (Ag_sF (by decide) q1), ?_, fun i hi => ?_, fun i hi => ?_⟩
          · show nI (3 - n) + (-1) = nI (4 - (n + 1)) - 1
            rw [show 4 - (n + 1) = 3 - n by omega]
            exact (Int32.sub_eq_add_neg _ _).symm
          · simp only [hI_sI, hI_sJ, hI_sF, hI_sR, hI_cp, hJ_sI, hJ_sJ, hJ_sF, hJ_sR, hJ_cp, hF_sI, hF_sJ, hF_sF, hF_sR, hF_cp, hR_sI, hR_sJ, hR_sF, hR_sR, hR_cp]
            simp
            rfl
          · simp only [hI_sI, hI_sJ, hI_sF, hI_sR, hI_cp, hJ_sI, hJ_sJ, hJ_sF, hJ_sR, hJ_cp, hF_sI, hF_sJ, hF_sF, hF_sR, hF_cp, hR_sI, hR_sJ, hR_sF, hR_sR, hR_cp]
            by_cases e : i = n
            · subst e
              rw [if_pos ⟨trivial, rfl⟩]
            · rw [if_neg (by omega)]
              exact q2 i (by omega)
          · simp only [hI_sI, hI_sJ, hI_sF, hI_sR, hI_cp, hJ_sI, hJ_sJ, hJ_sF, hJ_sR, hJ_cp, hF_sI, hF_sJ, hF_sF, hF_sR, hF_cp, hR_sI, hR_sJ, hR_sF, hR_sR, hR_cp]
            rw [if_neg (by omega)]
            exact q3 i hi
        · rintro ⟨w, h1⟩ ⟨e, q1, q0, q2, q3⟩
          dsimp only at e q1 q0 q2 q3 ⊢
          subst e
          unfold fM_sign_20b
          rw [if_pos (by decide)]
          exact ⟨_, rfl, q1, q0, q2, q3⟩
      obtain ⟨x, m1, m2, m0, m3, m4⟩ := main
      rw [m1]
      simp only [Option.bind_some, m0]
      refine ⟨_, rfl, IM_text hI m2 (by decide +kernel) ⟨by rw [m0, addX_len], fun i hi => ?_⟩, Ag_trans (AgS (by decide +kernel) hA0) (AgS (by decide +kernel) m2)⟩
      rw [addX_len] at hi
      by_cases e : i < (zX σ).length
      · rw [m4 i e, addX_lo e, t2 i e]
      · have := m3 (i - (zX σ).length) (by omega)
        have w := addX_hi (X := zX σ) (v := v) (j := i - (zX σ).length) (by omega)
        rw [show (zX σ).length + (i - (zX σ).length) = i by omega] at this w
        rw [this, w]
  · have hn : ¬ nI ((zX σ).length + 4) ≤ (80 : Int32) := nI_ge (a := 80) (by omega) (by omega)
    refine ⟨-1, σ, hσ, fun h hI => ⟨h, ?_, C_ref hI⟩, fun h hI => ⟨_, ?_, M_ref hI⟩⟩
    · unfold fB_sign fB_sign_0 fT_addFour fT_addFour_0
      rw [hI.2.2.1.1, show (nI (zX σ).length + 4 : Int32) = nI ((zX σ).length + 4) from nI_add _ 4, if_neg hn]
      rfl
    · have hI := IM_thr hI
      unfold fM_sign fM_sign_0
      rw [hI.2.2.1.1, show (nI (zX σ).length + 4 : Int32) = nI ((zX σ).length + 4) from nI_add _ 4, if_neg hn]
/-- the class's text cut -/
theorem C_cut {h : rb_H} {X : List Nat} (hX : TXc h X) (hl : X.length ≤ 80) {n : Nat} (hn : n ≤ X.length) : fT_shorten (nI n) h = (true, rb_sF h 1 1 (nI n)) ∧ TXc (rb_sF h 1 1 (nI n)) (X.take n) ∧ Ag [1] h (rb_sF h 1 1 (nI n)) := by
  refine ⟨?_, ⟨?_, fun i hi => ?_⟩, Ag_sF (by decide) (Ag_refl _ _)⟩
  · unfold fT_shorten fT_shorten_0
    rw [if_neg (nI_pos (by omega)), hX.1, if_pos (nI_le hn (by omega))]
  · rw [hF_sF, if_pos ⟨rfl, rfl⟩, List.length_take, Nat.min_eq_left hn]
  · rw [List.length_take] at hi
    rw [getD_take (by omega)]
    exact hX.2 i (by omega)
theorem O_end (v : Int32) : rb_op (fun h => some (rbz (fB_end v h))) (fun h => some (rbz (fM_end v h))) := by
  intro σ hσ
  have hl := hσ.2.1.1
  rcases rg_or v (n := (zX σ).length) (by omega) with ⟨n, hn, rfl⟩ | hv
  · refine ⟨1, yX σ ((zX σ).take n), WS_text hσ (by rw [List.length_take]; omega) (fun c hc => hσ.2.1.2 c (List.mem_of_mem_take hc)), fun h hI => ?_, fun h0 hI0 => ?_⟩
    · obtain ⟨c1, c2, c3⟩ := C_cut hI.2.2.1 hl hn
      refine ⟨_, ?_, IC_text hI c3 (by decide +kernel) c2, AgS (by decide +kernel) c3⟩
      unfold fB_end fB_end_0
      simp only [rb_lt, c1]
      rfl
    · have hI := IM_thr hI0
      have A : Ag [1004] (rb_sF h0 49 7 0) (rb_sF (rb_sF h0 49 7 0) 49 4 (nI n)) := Ag_sF (by decide) (Ag_refl _ _)
      refine ⟨rb_sF (rb_sF h0 49 7 0) 49 4 (nI n), ?_, IM_text hI A (by decide) ⟨?_, fun i hi => ?_⟩, Ag_trans (AgS (by decide +kernel) (thr_ag h0)) (AgS (by decide +kernel) A)⟩
      · unfold fM_end fM_end_0
        dsimp only
        rw [hI.2.2.1.1, M_in_y (M := nI (zX σ).length) hn (by omega) rfl]
        rfl
      · rw [hF_sF, if_pos ⟨rfl, rfl⟩, List.length_take, Nat.min_eq_left hn]
      · rw [List.length_take] at hi
        rw [getD_take (by omega)]
        exact hI.2.2.1.2 i (by omega)
  · refine ⟨0, σ, hσ, fun h hI => ⟨h, ?_, C_ref hI⟩, fun h hI => ⟨_, ?_, M_ref hI⟩⟩
    · unfold fB_end fB_end_0 fT_shorten fT_shorten_0
      simp only [rb_lt, hI.2.2.1.1]
      rcases hv with hv | ⟨hv, hv2⟩
      · rw [if_pos hv]; rfl
      · rw [if_neg hv, if_neg (Int32.not_le.mpr hv2)]; rfl
    · have hI := IM_thr hI
      unfold fM_end fM_end_0
      dsimp only
      rw [hI.2.2.1.1, M_in_no hv]
      rfl
theorem int_lit {x : Int32} (h : ∀ k, k < 12 → x ≠ nI k) : x ≠ 0 ∧ x ≠ 1 ∧ x ≠ 2 ∧ x ≠ 3 ∧ x ≠ 4 ∧ x ≠ 5 ∧ x ≠ 6 ∧ x ≠ 7 ∧ x ≠ 8 ∧ x ≠ 9 ∧ x ≠ 10 ∧ x ≠ 11 := ⟨h 0 (by decide), h 1 (by decide), h 2 (by decide), h 3 (by decide), h 4 (by decide), h 5 (by decide), h 6 (by decide), h 7 (by decide), h 8 (by decide), h 9 (by decide), h 10 (by decide), h 11 (by decide)⟩
theorem O_count (v : Int32) : rb_op (fun h => (fB_count v h).map fun r => (r, h)) (fM_count v) := by
  intro σ hσ
  have hW := hσ.1
  have go : ∀ r : Int32, (∀ h, IC h σ → fB_count v h = some r) → (∀ h, IM h σ → fM_count v h = some (r, rb_sF h 49 7 0)) → ∃ (r : Int32) (σ' : sSt), WS σ' ∧ (∀ h, IC h σ → ∃ h', (fB_count v h).map (fun r => (r, h)) = some (r, h') ∧ IC h' σ' ∧ Ag cC h h') ∧ ∀ h, IM h σ → ∃ h', fM_count v h = some (r, h') ∧ IM h' σ' ∧ Ag cM h h' := fun r a b => ⟨r, σ, hσ, fun h hI => ⟨h, by rw [a h hI]; rfl, C_ref hI⟩, fun h hI => ⟨_, b h hI, M_ref hI⟩⟩
  rcases sq_or v 12 with ⟨k, hk, rfl⟩ | hv
  · rcases (show k = 0 ∨ k = 1 ∨ k = 2 ∨ k = 3 ∨ k = 4 ∨ k = 5 ∨ k = 6 ∨ k = 7 ∨ k = 8 ∨ k = 9 ∨ k = 10 ∨ k = 11 by omega) with rfl | rfl | rfl | rfl | rfl | rfl | rfl | rfl | rfl | rfl | rfl | rfl
    · refine go (nI (bN (zB σ))) (fun h hI => ?_) (fun h hI => ?_)
      · show some (rb_hF h 94 5) = _; rw [hI.1.1]
      · have hI := IM_thr hI
        show some (rb_hF (rb_sF h 49 7 0) 49 2, _) = _; rw [hI.1.1]
    · refine go (bits (fun i => decide (bP (zB σ) i ≠ 25)) (bN (zB σ))) (fun h hI => ?_) (fun h hI => ?_)
      · show (fS_standingPieces 94 h).bind (fun u1 => some u1) = _; rw [S_standingPieces hI.1 hW]; rfl
      · have hI := IM_thr hI
        show (fM_inBits 50 (rb_sF h 49 7 0)).bind (fun u1 => some (u1, rb_sF h 49 7 0)) = _; rw [M_inBits hI.1 hW]; rfl
    · refine go (nI (bT (zB σ))) (fun h hI => ?_) (fun h hI => ?_)
      · show some (rb_hF h 94 6) = _; rw [hI.1.2.1]
      · have hI := IM_thr hI
        show some (rb_hI (rb_sF h 49 7 0) 50 24, _) = _; rw [hI.1.2.1]
    · refine go (bQ (zB σ)) (fun h hI => ?_) (fun h hI => ?_)
      · show some (rb_hF h 94 7) = _; rw [hI.1.2.2.1]
      · have hI := IM_thr hI
        show some (rb_hI (rb_sF h 49 7 0) 50 25, _) = _; rw [hI.1.2.2.1]
    · refine go (bM (zB σ)) (fun h hI => ?_) (fun h hI => ?_)
      · show some (rb_hF h 94 8) = _; rw [hI.1.2.2.2.1]
      · have hI := IM_thr hI
        show some (rb_hI (rb_sF h 49 7 0) 50 26, _) = _; rw [hI.1.2.2.2.1]
    · refine go (nI (sumU (zB σ) (fun i => decide (bS (zB σ) i = 0)) (bN (zB σ)))) (fun h hI => ?_) (fun h hI => ?_)
      · show (fS_pursesOf 94 (nI 0) h).bind (fun u1 => some u1) = _; rw [S_pursesOf hI.1 hW (by omega)]; rfl
      · have hI := IM_thr hI
        show (fM_purses 50 (nI 0) (rb_sF h 49 7 0)).bind (fun u1 => some (u1, rb_sF h 49 7 0)) = _; rw [M_purses1 hI.1 hW (by omega)]; rfl
    · refine go (nI (sumU (zB σ) (fun i => decide (bS (zB σ) i = 1)) (bN (zB σ)))) (fun h hI => ?_) (fun h hI => ?_)
      · show (fS_pursesOf 94 (nI 1) h).bind (fun u1 => some u1) = _; rw [S_pursesOf hI.1 hW (by omega)]; rfl
      · have hI := IM_thr hI
        show (fM_purses 50 (nI 1) (rb_sF h 49 7 0)).bind (fun u1 => some (u1, rb_sF h 49 7 0)) = _; rw [M_purses1 hI.1 hW (by omega)]; rfl
    · refine go (nI (zH σ).length) (fun h hI => ?_) (fun h hI => ?_)
      · show some (rb_hF h 17 3) = _; rw [hI.2.2.2.2.2.2.1.2.1]
      · have hI := IM_thr hI
        show some (rb_hF (rb_sF h 49 7 0) 49 35, _) = _; rw [hI.2.2.2.2.2.2.1.1]
    · refine go (nI (zS σ).length) (fun h hI => ?_) (fun h hI => ?_)
      · show some (rb_hF h 20 3) = _; rw [hI.2.2.2.2.2.2.2.2.1]
      · have hI := IM_thr hI
        show some (rb_hF (rb_sF h 49 7 0) 49 38, _) = _; rw [hI.2.2.2.2.2.2.2.1.1]
    · refine go (nI (zP σ).length) (fun h hI => ?_) (fun h hI => ?_)
      · obtain ⟨f, hf, p1, p2, p3⟩ := hI.2.2.2.2.1
        show some (rb_hF h 23 2) = _; rw [p2]
      · have hI := IM_thr hI
        show some (rb_hF (rb_sF h 49 7 0) 49 20, _) = _; rw [hI.2.2.2.2.1.1]
    · refine go (nI (zT σ).length) (fun h hI => ?_) (fun h hI => ?_)
      · show some (rb_hF h 3 1) = _; rw [hI.2.2.2.1.1]
      · have hI := IM_thr hI
        show some (rb_hF (rb_sF h 49 7 0) 49 6, _) = _; rw [hI.2.2.2.1.1]
    · refine go (nI (zX σ).length) (fun h hI => ?_) (fun h hI => ?_)
      · show some (rb_hF h 1 1) = _; rw [hI.2.2.1.1]
      · have hI := IM_thr hI
        show some (rb_hF (rb_sF h 49 7 0) 49 4, _) = _; rw [hI.2.2.1.1]
  · obtain ⟨a0, a1, a2, a3, a4, a5, a6, a7, a8, a9, a10, a11⟩ := int_lit hv
    refine go (-1) (fun h hI => ?_) (fun h hI => ?_)
    · unfold fB_count fB_count_0
      simp only [a0, a1, a2, a3, a4, a5, a6, a7, a8, a9, a10, a11, if_false]
    · unfold fM_count fM_count_0
      simp only [a0, a1, a2, a3, a4, a5, a6, a7, a8, a9, a10, a11, if_false]
