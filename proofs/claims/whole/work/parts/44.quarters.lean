/-! a quarter day of the model; many quarter days -/
theorem bc_bits (p : Nat → Bool) {n : Nat} (hn : n ≤ 32) : fJI_bitCount (bits p n) = nI (fb_ct p n) := by
  rw [bitCount_eq, show (32 : Nat) = n + (32 - n) by omega, fb_ct_split]
  rw [fb_ct_cong (p := fun i => bt (bits p n) i) (q := p) (n := n) (fun k hk => by show bt (bits p n) k = p k; rw [bits_bt p n hn k (by omega)]; simp [hk])]
  rw [(fb_ct_zero (p := fun k => bt (bits p n) (n + k)) (n := 32 - n)).mpr (fun k hk => by show bt (bits p n) (n + k) = false; rw [bits_bt p n hn (n + k) (by omega), decide_eq_false (by omega), Bool.false_and])]
  rfl
/-- the rows of the model that hold boards -/
def mA (a : Nat) : Prop := a = 50 ∨ a = 59 ∨ a = 60 ∨ a = 75 ∨ a = 76 ∨ a = 77 ∨ a = 78
def mR : List Nat := [57, 61, 1009, 1010, 1011, 1012, 1017, 2000]
theorem mR_sub {x : Nat} (h : x ∈ [57, 1009, 1010, 1011, 1012, 1017, 2000]) : x ∈ mR := by
  unfold mR
  simp only [List.mem_cons, List.not_mem_nil, or_false] at h ⊢
  omega
section
variable {h : rb_H} {o a ru : Nat} {B : sBd} {ρ : sRu}
theorem RM_mR {L : List Nat} {h' : rb_H} (hR : RM h a B) (hA : Ag L h h') (ha : mA a) (hL : ∀ x, x ∈ L → x ∈ mR) : RM h' a B := RM_ag hR hA (fun x hx z => by
  have := hL x z
  unfold mR at this
  unfold mA at ha
  simp only [List.mem_cons, List.not_mem_nil, or_false] at hx this
  omega)
theorem RuM_mR {L : List Nat} {h' : rb_H} (hU : RuM h ρ) (hA : Ag L h h') (hL : ∀ x, x ∈ L → x ∈ mR) : RuM h' ρ := RuM_ag hU hA (fun x hx z => by
  have := hL x z
  unfold mR at this
  simp only [List.mem_cons, List.not_mem_nil, or_false] at hx this
  omega)
theorem M_dues (hR : RM h a B) (hW : WF B) (hU : RuM h ρ) (ha : mA a) : ∃ x, rb_iter rb_fuel (fun s => fM_goQuarter_4b a 0 s.1 s.2) ((0 : Int32), h) = some x ∧ (Ag mR h x ∧ ∀ i, i < bN B → rb_hI x 61 i = nI (dueN ρ B i)) := by
  have h8 := hW.1
  refine rb_runP (fun k s => s.1 = nI k ∧ Ag mR h s.2 ∧ ∀ i, i < k → rb_hI s.2 61 i = nI (dueN ρ B i)) _ (bN B) ⟨rfl, Ag_refl _ _, fun i hi => absurd hi (Nat.not_lt_zero _)⟩ (by omega) ?_ ?_
  · rintro k ⟨v, h1⟩ hk ⟨e, hA, hI⟩
    dsimp only at e hA hI ⊢
    subst e
    have hR1 : RM h1 a B := RM_mR hR hA ha (fun _ z => z)
    have hU1 : RuM h1 ρ := RuM_mR hU hA (fun _ z => z)
    have hw := hW.2.2.1 k hk
    unfold fM_goQuarter_4b fM_goQuarter_41l4
    simp only [hR1.1, if_neg (nI_ge hk (show bN B < 2 ^ 31 by omega)), M_isOut hR1 hW hk, Option.bind_some, nI8, if_neg (oob_n (show 8 + k < 27 by omega) (by omega)), if_neg (oob_n (show k < 8 by omega) (by omega)), cl_n (show k < 2 ^ 31 by omega), cl_n (show 8 + k < 2 ^ 31 by omega), (hR1.2.2.2.2 k hk).2.2.1, nI_1, decide_eq_true_eq]
    by_cases q : bP B k = 25
    · rw [if_pos q]
      refine ⟨_, rfl, rfl, Ag_sI (by decide) hA, fun i hi => ?_⟩
      rw [hI_sI]
      by_cases ei : i = k
      · subst ei
        rw [if_pos ⟨rfl, rfl⟩]
        unfold dueN
        rw [if_pos q]; rfl
      · rw [if_neg (fun z => ei z.2)]
        exact hI i (by omega)
    · rw [if_neg q]
      have hax : a ≠ 57 ∧ a ≠ 55 ∧ a ≠ 56 := by unfold mA at ha; omega
      obtain ⟨h2, r1, r2⟩ := M_rentOf hR1 hW hU1 hk (show bP B k < 25 by omega) hax.1 hax.2.1 hax.2.2
      rw [r1]
      refine ⟨_, rfl, rfl, Ag_sI (by decide) (Ag_trans hA (Ag_mono (fun x hx => mR_sub hx) r2)), fun i hi => ?_⟩
      rw [hI_sI]
      by_cases ei : i = k
      · subst ei
        rw [if_pos ⟨rfl, rfl⟩]
        unfold dueN
        rw [if_neg q]
      · rw [if_neg (fun z => ei z.2), AgI r2 (by decide)]
        exact hI i (by omega)
  · rintro ⟨v, h1⟩ ⟨e, hA, hI⟩
    dsimp only at e hA hI ⊢
    subst e
    have hR1 : RM h1 a B := RM_mR hR hA ha (fun _ z => z)
    unfold fM_goQuarter_4b
    rw [hR1.1, if_pos (nI_le (Nat.le_refl _) (by omega))]
    exact ⟨_, rfl, hA, hI⟩
theorem goesOut_out {i : Nat} (q : bP B i = 25) : goesOutB ρ B i = false := by
  unfold goesOutB dueN
  rw [if_pos q]
  simp
theorem paid_out {i : Nat} (q : bP B i = 25) : paidN ρ B i = 0 := by
  unfold paidN
  rw [goesOut_out q]
  unfold dueN
  rw [if_pos q]
  rfl
theorem M_goQuarter (hR : RM h a B) (hW : WF B) (hU : RuM h ρ) (ha : mA a) : ∃ h', fM_goQuarter a h = some (bits (goesOutB ρ B) (bN B), h') ∧ RM h' a (qdB ρ B) ∧ rb_hF h' 49 24 = rb_hF h 49 24 + nI (fb_sm (paidN ρ B) (bN B)) ∧ Ag (a :: 1024 :: mR) h h' := by
  have h8 := hW.1
  have ha61 : ¬ a = 61 := by unfold mA at ha; omega
  have ha61' : ¬ 61 = a := fun z => ha61 z.symm
  have ha51 : ¬ 51 = a := by unfold mA at ha; omega
  unfold fM_goQuarter fM_goQuarter_0
  obtain ⟨h1, d1, d2, d3⟩ := M_dues hR hW hU ha
  rw [d1]
  simp only [Option.bind_some]
  have hR1 : RM h1 a B := RM_mR hR d2 ha (fun _ z => z)
  have main : ∃ x, rb_iter rb_fuel (fun s => fM_goQuarter_50b a s.1 s.2.1 s.2.2) ((0 : Int32), (0 : Int32), h1) = some x ∧ (x.1 = bits (goesOutB ρ B) (bN B) ∧ Ag [a, 1024] h1 x.2 ∧ (∀ i, i < bN B → rb_hI x.2 a i = nI (bK B i) ∧ rb_hI x.2 a (8 + i) = nI (bP (qdB ρ B) i) ∧ rb_hI x.2 a (16 + i) = nI (bU (qdB ρ B) i)) ∧ (∀ i, 24 ≤ i → rb_hI x.2 a i = rb_hI h1 a i) ∧ rb_hF x.2 49 24 = rb_hF h1 49 24 + nI (fb_sm (paidN ρ B) (bN B))) := by
    refine rb_runP (fun k s => s.1 = bits (goesOutB ρ B) k ∧ s.2.1 = nI k ∧ Ag [a, 1024] h1 s.2.2 ∧ (∀ i, i < bN B → rb_hI s.2.2 a i = nI (bK B i) ∧ rb_hI s.2.2 a (8 + i) = nI (if i < k then bP (qdB ρ B) i else bP B i) ∧ rb_hI s.2.2 a (16 + i) = nI (if i < k then bU (qdB ρ B) i else bU B i)) ∧ (∀ i, 24 ≤ i → rb_hI s.2.2 a i = rb_hI h1 a i) ∧ rb_hF s.2.2 49 24 = rb_hF h1 49 24 + nI (fb_sm (paidN ρ B) k)) _ (bN B) ⟨rfl, rfl, Ag_refl _ _, fun i hi => ?_, fun _ _ => rfl, (i0 _).symm⟩ (by omega) ?_ ?_
    · rw [if_neg (Nat.not_lt_zero _), if_neg (Nat.not_lt_zero _)]
      have q := hR1.2.2.2.2 i hi
      exact ⟨q.1, q.2.2.1, q.2.2.2⟩
    · rintro k ⟨v, w, h2⟩ hk ⟨e1, e2, hA, hI, hT, hp⟩
      dsimp only at e1 e2 hA hI hT hp ⊢
      subst e1
      subst e2
      have hw := hW.2.2.1 k hk
      have hf : rb_hF h2 49 2 = nI (bN B) := (AgF (a := 49) (i := 2) hA (show 1002 ∉ [a, 1024] by unfold mA at ha; simp only [List.mem_cons, List.not_mem_nil, or_false]; omega)).trans hR1.1
      have hdu : rb_hI h2 61 k = nI (dueN ρ B k) := (AgI hA (by simp only [List.mem_cons, List.not_mem_nil, or_false]; omega) k).trans (d3 k hk)
      have hu := (hI k hk).2.2
      have hpl := (hI k hk).2.1
      rw [if_neg (Nat.lt_irrefl k)] at hu hpl
      have hdl := dueN_le ρ B k
      have elt : nI (bU B k) < nI (dueN ρ B k) ↔ bU B k < dueN ρ B k := nI_ltI (by omega) (by omega)
      have hout : fM_isOut a (nI k) h2 = some (decide (bP B k = 25)) := by
        have hP := hw.2.2.1
        unfold fM_isOut fM_isOut_0
        simp only [nI8, cl_n (show 8 + k < 2 ^ 31 by omega), if_neg (oob_n (show 8 + k < 27 by omega) (by omega)), hpl]
        by_cases h25 : bP B k = 25
        · rw [if_pos (by rw [h25]; rfl)]
          simp [h25]
        · rw [if_neg (by intro q; exact h25 ((nI_eq (by omega) (by omega)).mp (show nI (bP B k) = nI 25 from q)))]
          simp [h25]
      have same : ∀ i, ¬ i = k → ((i < k + 1) = (i < k)) := fun i hi => propext (by omega)
      unfold fM_goQuarter_50b fM_goQuarter_138l50
      simp only [hf, if_neg (nI_ge hk (show bN B < 2 ^ 31 by omega)), hout, Option.bind_some, decide_eq_true_eq, nI8, nI16, if_neg (oob_n (show k < 8 by omega) (by omega)), if_neg (oob_n (show 8 + k < 27 by omega) (by omega)), if_neg (oob_n (show 16 + k < 27 by omega) (by omega)), cl_n (show k < 2 ^ 31 by omega), cl_n (show 8 + k < 2 ^ 31 by omega), cl_n (show 16 + k < 2 ^ 31 by omega), hu, hdu, elt, nI_1]
      by_cases q25 : bP B k = 25
      · rw [if_pos q25]
        have g : goesOutB ρ B k = false := goesOut_out q25
        refine ⟨_, rfl, ?_, rfl, hA, fun i hi => ?_, hT, ?_⟩
        · show bits (goesOutB ρ B) k = bits (goesOutB ρ B) k ||| (if goesOutB ρ B k = true then rb_shl 1 (nI k) else 0)
          rw [g, if_neg (by decide), Int32.or_zero]
        · by_cases ei : i = k
          · subst ei
            simp only [if_pos (Nat.lt_succ_self i)]
            refine ⟨(hI i hi).1, ?_, ?_⟩
            · rw [hpl]
              show _ = nI (if goesOutB ρ B i = true then 25 else bP B i)
              rw [g, if_neg (by decide)]
            · rw [hu]
              show _ = nI (if goesOutB ρ B i = true then 0 else bU B i - dueN ρ B i)
              rw [g, if_neg (by decide)]
              unfold dueN
              rw [if_pos q25, Nat.sub_zero]
          · simp only [same i ei]
            exact hI i hi
        · rw [hp, fb_sm_succ, paid_out q25, Nat.add_zero]
      · rw [if_neg q25]
        by_cases q : bU B k < dueN ρ B k
        · have g : goesOutB ρ B k = true := decide_eq_true q
          rw [if_pos q]
          refine ⟨_, rfl, ?_, rfl, Ag_sI (by simp) (Ag_sI (by simp) hA), fun i hi => ?_, fun i hi => ?_, ?_⟩
          · show _ = bits (goesOutB ρ B) k ||| (if goesOutB ρ B k = true then rb_shl 1 (nI k) else 0)
            rw [g, if_pos rfl]
          · simp only [hI_sI, true_and]
            have n1 : ¬ i = 16 + k := by omega
            have n2 : ¬ i = 8 + k := by omega
            have n3 : ¬ 8 + i = 16 + k := by omega
            have n4 : ¬ 16 + i = 8 + k := by omega
            simp only [n1, n2, n3, n4, if_false]
            by_cases ei : i = k
            · subst ei
              simp only [if_true, if_pos (Nat.lt_succ_self i)]
              refine ⟨(hI i hi).1, ?_, ?_⟩
              · show (25 : Int32) = nI (if goesOutB ρ B i = true then 25 else bP B i)
                rw [if_pos g]; rfl
              · show (0 : Int32) = nI (if goesOutB ρ B i = true then 0 else bU B i - dueN ρ B i)
                rw [if_pos g]; rfl
            · have m1 : ¬ 8 + i = 8 + k := by omega
              have m2 : ¬ 16 + i = 16 + k := by omega
              simp only [m1, m2, if_false]
              simp only [same i ei]
              exact hI i hi
          · simp only [hI_sI, true_and]
            rw [if_neg (show ¬ i = 16 + k by omega), if_neg (show ¬ i = 8 + k by omega)]
            exact hT i hi
          · simp only [hF_sI]
            rw [hp, fb_sm_succ]
            unfold paidN
            rw [if_pos g, Nat.add_zero]
        · have g : ¬ goesOutB ρ B k = true := by unfold goesOutB; simp; omega
          rw [if_neg q]
          have hsub : nI (bU B k) - nI (dueN ρ B k) = nI (bU B k - dueN ρ B k) := nI_sub (by omega)
          simp only [hsub, hF_sI, hI_sI, ha61', false_and, if_false, hdu]
          refine ⟨_, rfl, ?_, rfl, Ag_sF (by simp [fid]) (Ag_sI (by simp) hA), fun i hi => ?_, fun i hi => ?_, ?_⟩
          · show bits (goesOutB ρ B) k = bits (goesOutB ρ B) k ||| (if goesOutB ρ B k = true then rb_shl 1 (nI k) else 0)
            rw [if_neg g, Int32.or_zero]
          · simp only [hI_sI, hI_sJ, hI_sF, hI_sR, hI_cp, hJ_sI, hJ_sJ, hJ_sF, hJ_sR, hJ_cp, hF_sI, hF_sJ, hF_sF, hF_sR, hF_cp, hR_sI, hR_sJ, hR_sF, hR_sR, hR_cp, true_and]
            have n1 : ¬ i = 16 + k := by omega
            have n3 : ¬ 8 + i = 16 + k := by omega
            simp only [n1, n3, if_false]
            by_cases ei : i = k
            · subst ei
              simp only [if_true, if_pos (Nat.lt_succ_self i)]
              refine ⟨(hI i hi).1, ?_, ?_⟩
              · rw [hpl]
                show _ = nI (if goesOutB ρ B i = true then 25 else bP B i)
                rw [if_neg g]
              · show _ = nI (if goesOutB ρ B i = true then 0 else bU B i - dueN ρ B i)
                rw [if_neg g]
            · have m2 : ¬ 16 + i = 16 + k := by omega
              simp only [m2, if_false]
              simp only [same i ei]
              exact hI i hi
          · simp only [hI_sI, hI_sJ, hI_sF, hI_sR, hI_cp, hJ_sI, hJ_sJ, hJ_sF, hJ_sR, hJ_cp, hF_sI, hF_sJ, hF_sF, hF_sR, hF_cp, hR_sI, hR_sJ, hR_sF, hR_sR, hR_cp, true_and]
            rw [if_neg (show ¬ i = 16 + k by omega)]
            exact hT i hi
          · simp only [hI_sI, hI_sJ, hI_sF, hI_sR, hI_cp, hJ_sI, hJ_sJ, hJ_sF, hJ_sR, hJ_cp, hF_sI, hF_sJ, hF_sF, hF_sR, hF_cp, hR_sI, hR_sJ, hR_sF, hR_sR, hR_cp, true_and, if_true]
            rw [hp, fb_sm_succ, Int32.add_assoc, nI_add]
            unfold paidN
            rw [if_neg g]
    · rintro ⟨v, w, h2⟩ ⟨e1, e2, hA, hI, hT, hp⟩
      dsimp only at e1 e2 hA hI hT hp ⊢
      subst e1
      subst e2
      have hf : rb_hF h2 49 2 = nI (bN B) := (AgF (a := 49) (i := 2) hA (show 1002 ∉ [a, 1024] by unfold mA at ha; simp only [List.mem_cons, List.not_mem_nil, or_false]; omega)).trans hR1.1
      unfold fM_goQuarter_50b
      rw [hf, if_pos (nI_le (Nat.le_refl _) (by omega))]
      refine ⟨_, rfl, rfl, hA, fun i hi => ?_, hT, hp⟩
      have := hI i hi
      rw [if_pos hi, if_pos hi] at this
      exact this
  obtain ⟨x, m1, m2, m3, m4, m5, m6⟩ := main
  rw [m1]
  simp only [Option.bind_some, m2]
  refine ⟨_, rfl, ⟨?_, ?_, ?_, ?_, fun i hi => ?_⟩, ?_, ?_⟩
  · simp only [hI_sI, hI_sJ, hI_sF, hI_sR, hI_cp, hJ_sI, hJ_sJ, hJ_sF, hJ_sR, hJ_cp, hF_sI, hF_sJ, hF_sF, hF_sR, hF_cp, hR_sI, hR_sJ, hR_sF, hR_sR, hR_cp]
    exact (AgF (a := 49) (i := 2) m3 (show 1002 ∉ [a, 1024] by unfold mA at ha; simp only [List.mem_cons, List.not_mem_nil, or_false]; omega)).trans hR1.1
  · rw [hI_sI, if_neg (by omega), m5 24 (by omega)]
    exact hR1.2.1
  · rw [hI_sI, if_pos ⟨rfl, rfl⟩, m5 25 (by omega), hR1.2.2.1]
    rfl
  · rw [hI_sI, if_neg (by omega), m5 26 (by omega)]
    exact hR1.2.2.2.1
  · have q := hR1.2.2.2.2 i hi
    have hi8 : i < 8 := Nat.lt_of_lt_of_le hi h8
    have w := m4 i hi
    simp only [hI_sI, true_and, ha51, false_and, if_false]
    rw [if_neg (show ¬ i = 25 by omega), if_neg (show ¬ 8 + i = 25 by omega), if_neg (show ¬ 16 + i = 25 by omega), AgI m3 (show 51 ∉ [a, 1024] by simp only [List.mem_cons, List.not_mem_nil, or_false]; omega)]
    exact ⟨w.1, q.2.1, w.2.1, w.2.2⟩
  · rw [hF_sI, m6, AgF d2 (by decide)]
  · refine Ag_sI (by simp) (Ag_trans (Ag_mono (fun x hx => List.mem_cons_of_mem _ (List.mem_cons_of_mem _ hx)) d2) (Ag_mono ?_ m3))
    intro y hy
    simp only [List.mem_cons, List.not_mem_nil, or_false] at hy ⊢
    omega
end
