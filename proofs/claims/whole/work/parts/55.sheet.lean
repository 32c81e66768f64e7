/-! how a call ends, again; sheets -/
def rb_at (σ : sSt) (C M : rb_H → Option (Int32 × rb_H)) : Prop := ∃ (r : Int32) (σ' : sSt), WS σ' ∧ (∀ h, IC h σ → ∃ h', C h = some (r, h') ∧ IC h' σ' ∧ Ag cC h h') ∧ ∀ h, IM h σ → ∃ h', M h = some (r, h') ∧ IM h' σ' ∧ Ag cM h h'
theorem rb_op_of {C M : rb_H → Option (Int32 × rb_H)} (h : ∀ σ, WS σ → rb_at σ C M) : rb_op C M := h
/-- scratch cells alone -/
def fC9 : List Nat := [7, 8, 9, 10, 11, 12, 13, 14, 15, 16] ++ List.range' 27 22 ++ [99] ++ List.range' 100 12 ++ List.range' 196 12
def fM9 : List Nat := [1007, 54, 57, 59, 60, 61, 62, 1008, 1009, 1010, 1011, 1012, 1017, 1024, 1041, 2000, 88, 89] ++ List.range' 63 21
section
variable {σ : sSt} {C M : rb_H → Option (Int32 × rb_H)}
theorem at_refuse (hσ : WS σ) (r : Int32) (hc : ∀ h, IC h σ → C h = some (r, h)) (hm : ∀ h, IM (rb_sF h 49 7 0) σ → M h = some (r, rb_sF h 49 7 0)) : rb_at σ C M :=
  ⟨r, σ, hσ, fun h hI => ⟨h, hc h hI, C_ref hI⟩, fun h hI => ⟨_, hm h (IM_thr hI), M_ref hI⟩⟩
theorem at_row (hσ : WS σ) (r : Int32) (R : List Int64) (hl : R.length ≤ 16) (hc : ∀ h, IC h σ → ∃ h', C h = some (r, h') ∧ RWc h' R ∧ Ag fC0 h h') (hm : ∀ h0 h, h = rb_sF h0 49 7 0 → IM h σ → ∃ h', M h0 = some (r, h') ∧ RWm h' R ∧ Ag fM0 h h') : rb_at σ C M :=
  ⟨r, yT σ R, WS_row hσ hl, fun h hI => by obtain ⟨h', a, b, c⟩ := hc h hI; exact ⟨h', a, C_done0 hI c b⟩, fun h hI => by obtain ⟨h', a, b, c⟩ := hm h _ rfl (IM_thr hI); exact ⟨h', a, M_done0 hI (Ag_trans (thr_ag h) c) b⟩⟩
theorem at_quiet (hσ : WS σ) (r : Int32) (hc : ∀ h, IC h σ → ∃ h', C h = some (r, h') ∧ Ag fC9 h h') (hm : ∀ h0 h, h = rb_sF h0 49 7 0 → IM h σ → ∃ h', M h0 = some (r, h') ∧ Ag fM9 h h') : rb_at σ C M :=
  at_row (R := zT σ) hσ r hσ.2.2.1 (fun h hI => by obtain ⟨h', a, c⟩ := hc h hI; exact ⟨h', a, RWc_ag hI.2.2.2.1 c (by decide +kernel), AgS (by decide +kernel) c⟩) (fun h0 h e hI => by obtain ⟨h', a, c⟩ := hm h0 h e hI; exact ⟨h', a, RWm_ag hI.2.2.2.1 c (by decide +kernel), AgS (by decide +kernel) c⟩)
end
def clamp99 (x : Int32) : Nat := if x < 0 then 0 else if 99 < x then 99 else x.toNatClampNeg
theorem clamp99_le (x : Int32) : clamp99 x ≤ 99 := by
  unfold clamp99
  split
  · omega
  · rename_i h0
    split
    · omega
    · rename_i h1
      obtain ⟨j, hj, rfl⟩ := nI_of h0
      have : ¬ nI 99 < nI j := h1
      rw [nI_ltI (by omega) hj] at this
      rw [cl_n hj]
      omega
theorem put_99 (x : Int32) : fB_put x 99 = nI (clamp99 x) := by
  unfold fB_put fB_put_0 clamp99
  by_cases h0 : x < 0
  · rw [if_neg (Int32.not_le.mpr h0), if_pos h0]; rfl
  · rw [if_pos (Int32.not_lt.mp h0), if_neg h0]
    by_cases h1 : 99 < x
    · rw [if_neg (Int32.not_le.mpr h1), if_pos h1]; rfl
    · rw [if_pos (Int32.not_lt.mp h1), if_neg h1]
      obtain ⟨j, hj, rfl⟩ := nI_of h0
      rw [cl_n hj]
theorem max_min_99 (x : Int32) : rb_max 0 (rb_min 99 x) = nI (clamp99 x) := by
  unfold rb_max rb_min clamp99
  by_cases h0 : x < 0
  · have : x < 99 := Int32.lt_trans h0 (by decide)
    rw [if_pos this, if_neg (fun z => absurd (Int32.lt_trans z h0) Int32.lt_irrefl), if_pos h0]; rfl
  · rw [if_neg h0]
    by_cases h1 : 99 < x
    · rw [if_neg (fun z => absurd (Int32.lt_trans z h1) Int32.lt_irrefl), if_pos h1, if_pos (by decide)]; rfl
    · rw [if_neg h1]
      obtain ⟨j, hj, rfl⟩ := nI_of h0
      rw [cl_n hj]
      have h1 : ¬ nI 99 < nI j := h1
      rw [nI_ltI (by omega) hj] at h1
      by_cases h2 : nI j < 99
      · rw [if_pos h2]
        by_cases h3 : (0 : Int32) < nI j
        · rw [if_pos h3]
        · rw [if_neg h3]
          have h3 : ¬ nI 0 < nI j := h3
          rw [nI_ltI (by omega) hj] at h3
          have : j = 0 := by omega
          subst this; rfl
      · rw [if_neg h2, if_pos (by decide)]
        have h2 : ¬ nI j < nI 99 := h2
        rw [nI_ltI hj (by omega)] at h2
        have : j = 99 := by omega
        subst this; rfl
noncomputable def shU (B : sBd) (kd n f st : Int32) (i : Nat) : Nat := if kd = 3 ∨ n ≤ nI i ∨ bP B i = 25 then 0 else clamp99 (fB_entryOf kd (f + nI i * st))
noncomputable def shB (B : sBd) (kd n f st : Int32) : sBd := (bK B, bS B, bP B, shU B kd n f st, bN B, bT B, bQ B, bM B)
theorem shB_WF {B : sBd} (hW : WF B) (kd n f st : Int32) : WF (shB B kd n f st) := by
  refine ⟨hW.1, hW.2.1, fun i hi => ?_, hW.2.2.2⟩
  obtain ⟨a, b, c, d⟩ := hW.2.2.1 i hi
  refine ⟨a, b, c, ?_⟩
  show (if kd = 3 ∨ n ≤ nI i ∨ bP B i = 25 then 0 else clamp99 (fB_entryOf kd (f + nI i * st))) ≤ 99
  split
  · omega
  · exact clamp99_le _
theorem C_sheet {h : rb_H} {B : sBd} (hR : RS h 94 B) (hW : WF B) (kd n f st m : Int32) (hm : m = if kd = 3 then 0 else n) : ∃ h', fB_sheet_39 kd f st m h = some (if kd = 3 then -3 else nI (sumU (shB B kd n f st) (fun i => decide (bS B i = 0)) (bN B)) + nI (sumU (shB B kd n f st) (fun i => decide (bS B i = 1)) (bN B)), h') ∧ RS h' 94 (shB B kd n f st) ∧ Ag [98] h h' := by
  have h8 := hW.1
  have main : ∃ x, rb_iter rb_fuel (fun s => fB_sheet_44b kd f st m s.1 s.2) ((0 : Int32), h) = some x ∧ (Ag [98] h x ∧ ∀ i, i < bN B → rb_hI x 98 i = nI (shU B kd n f st i)) := by
    refine rb_runP (fun k s => s.1 = nI k ∧ Ag [98] h s.2 ∧ ∀ i, i < k → rb_hI s.2 98 i = nI (shU B kd n f st i)) _ (bN B) ⟨rfl, Ag_refl _ _, fun i hi => absurd hi (Nat.not_lt_zero _)⟩ (by omega) ?_ ?_
    · rintro k ⟨w, h1⟩ hk ⟨e, hA, hI⟩
      dsimp only at e hA hI ⊢
      subst e
      have f5 : rb_hF h1 94 5 = nI (bN B) := (AgF (a := 94) (i := 5) hA (by decide)).trans hR.1
      have hst : fS_stands 94 (nI k) h1 = some (decide (bP B k ≠ 25)) := by
        have hw := hW.2.2.1 k hk
        have e1 : rb_hI h1 97 k = nI (bP B k) := (AgI hA (by decide) k).trans (RS94 hR hk).2.2.1
        have e2 : nI (bP B k) = (25 : Int32) ↔ bP B k = 25 := nI_eq (b := 25) (by omega) (by omega)
        have e3 : fS_has 94 (nI k) h1 = true := by
          unfold fS_has fS_has_0
          rw [f5, if_neg (nI_pos (by omega)), if_neg (nI_ge hk (by omega)), if_neg (show ¬ (8 : Int32) ≤ nI k from nI_ge (b := 8) (by omega) (by omega))]
        unfold fS_stands fS_stands_0
        rw [e3, if_pos rfl, if_neg (oob_n (show k < 8 by omega) (by omega)), cl_n (by omega)]
        show (if rb_hI h1 97 k = 25 then _ else _) = _
        rw [e1]
        simp only [e2]
        by_cases c : bP B k = 25 <;> simp [c]
      have step : ∀ v : Int32, v = nI (shU B kd n f st k) → ∃ s', fB_sheet_116l44 kd f st m (nI k) v (nI k) h1 = some (.inl s') ∧ (s'.1 = nI (k + 1) ∧ Ag [98] h s'.2 ∧ ∀ i, i < k + 1 → rb_hI s'.2 98 i = nI (shU B kd n f st i)) := by
        intro v hv
        unfold fB_sheet_116l44
        rw [if_neg (oob_n (show k < 8 by omega) (by omega)), cl_n (by omega)]
        refine ⟨_, rfl, nI_1 _, Ag_sI (by simp) hA, fun i hi => ?_⟩
        rw [hI_sI]
        by_cases e : i = k
        · rw [if_pos ⟨rfl, e⟩, e]; exact hv
        · rw [if_neg (fun z => e z.2)]; exact hI i (by omega)
      unfold fB_sheet_44b
      rw [f5, if_neg (nI_ge hk (by omega))]
      by_cases c : m ≤ nI k
      · have hz : nI (shU B kd n f st k) = 0 := by
          unfold shU
          rw [if_pos]
          · rfl
          · by_cases c3 : kd = 3
            · exact Or.inl c3
            · rw [if_neg c3] at hm
              exact Or.inr (Or.inl (by rw [← hm]; exact c))
        rw [if_pos c]
        unfold fB_sheet_79l44 fB_sheet_80l44
        rw [if_pos rfl]
        exact step 0 hz.symm
      · have c3 : ¬ kd = 3 := fun z => c (by rw [hm, if_pos z]; exact nI_pos' (by omega))
        rw [if_neg c3] at hm
        rw [if_neg c, hst]
        simp only [Option.bind_some, decide_eq_true_eq]
        by_cases c2 : bP B k = 25
        · rw [if_neg (fun z => z c2)]
          unfold fB_sheet_79l44 fB_sheet_80l44
          rw [if_pos rfl]
          refine step 0 ?_
          unfold shU
          rw [if_pos (Or.inr (Or.inr c2))]
          rfl
        · rw [if_pos c2]
          unfold fB_sheet_80l44
          rw [if_neg (by decide)]
          simp only [rb_lt, put_99]
          refine step _ ?_
          unfold shU
          rw [if_neg]
          rintro (z | z | z)
          · exact c3 z
          · exact c (by rw [hm]; exact z)
          · exact c2 z
    · rintro ⟨w, h1⟩ ⟨e, hA, hI⟩
      dsimp only at e hA hI ⊢
      subst e
      have f5 : rb_hF h1 94 5 = nI (bN B) := (AgF (a := 94) (i := 5) hA (by decide)).trans hR.1
      unfold fB_sheet_44b
      rw [f5, if_pos (nI_le (Nat.le_refl _) (by omega))]
      exact ⟨_, rfl, hA, hI⟩
  obtain ⟨x, m1, m2, m3⟩ := main
  have hR' : RS x 94 (shB B kd n f st) := by
    refine ⟨(AgF (a := 94) (i := 5) m2 (by decide)).trans hR.1, (AgF (a := 94) (i := 6) m2 (by decide)).trans hR.2.1, (AgF (a := 94) (i := 7) m2 (by decide)).trans hR.2.2.1, (AgF (a := 94) (i := 8) m2 (by decide)).trans hR.2.2.2.1, fun i hi => ?_⟩
    have q := RS94 hR hi
    exact ⟨(AgI m2 (by decide) i).trans q.1, (AgI m2 (by decide) i).trans q.2.1, (AgI m2 (by decide) i).trans q.2.2.1, m3 i hi⟩
  have hW' := shB_WF hW kd n f st
  unfold fB_sheet_39
  rw [m1]
  simp only [Option.bind_some]
  by_cases c3 : kd = 3
  · rw [if_pos c3, if_pos c3]
    exact ⟨x, rfl, hR', m2⟩
  · rw [if_neg c3, if_neg c3]
    have p0 := S_pursesOf hR' hW' (t := 0) (by omega)
    have p1 := S_pursesOf hR' hW' (t := 1) (by omega)
    rw [show (0 : Int32) = nI 0 from rfl, p0, show (1 : Int32) = nI 1 from rfl]
    simp only [Option.bind_some, p1]
    exact ⟨x, rfl, hR', m2⟩
theorem M_sheet {h : rb_H} {B : sBd} (hR : RM h 50 B) (hW : WF B) (kd n f st : Int32) : ∃ h', fM_sheet_34 kd n f st h = some (if kd = 3 then -3 else nI (sumU (shB B kd n f st) (fun i => decide (bS B i = 0)) (bN B)) + nI (sumU (shB B kd n f st) (fun i => decide (bS B i = 1)) (bN B)), h') ∧ RM h' 50 (shB B kd n f st) ∧ Ag [50] h h' := by
  have h8 := hW.1
  have main : ∃ x, rb_iter rb_fuel (fun s => fM_sheet_40b kd n st s.1 s.2.1 s.2.2) (f, (0 : Int32), h) = some x ∧ (Ag [50] h x ∧ (∀ i, i < 16 ∨ 24 ≤ i → rb_hI x 50 i = rb_hI h 50 i) ∧ ∀ i, i < bN B → rb_hI x 50 (16 + i) = nI (shU B kd n f st i)) := by
    refine rb_runP (fun k s => s.1 = f + nI k * st ∧ s.2.1 = nI k ∧ Ag [50] h s.2.2 ∧ (∀ i, i < 16 ∨ 24 ≤ i → rb_hI s.2.2 50 i = rb_hI h 50 i) ∧ ∀ i, i < k → rb_hI s.2.2 50 (16 + i) = nI (shU B kd n f st i)) _ (bN B) ⟨?_, rfl, Ag_refl _ _, fun _ _ => rfl, fun i hi => absurd hi (Nat.not_lt_zero _)⟩ (by omega) ?_ ?_
    · show f = f + nI 0 * st
      rw [show nI 0 = 0 from rfl, Int32.zero_mul, i0]
    · rintro k ⟨v, w, h1⟩ hk ⟨e1, e2, hA, hT, hI⟩
      dsimp only at e1 e2 hA hT hI ⊢
      subst e1
      subst e2
      have f5 : rb_hF h1 49 2 = nI (bN B) := (AgF (a := 49) (i := 2) hA (by decide)).trans hR.1
      have hw := hW.2.2.1 k hk
      have e2 : nI (bP B k) = (25 : Int32) ↔ bP B k = 25 := nI_eq (b := 25) (by omega) (by omega)
      have hst : fM_isOut 50 (nI k) h1 = some (decide (bP B k = 25)) := by
        unfold fM_isOut fM_isOut_0
        rw [nI8, if_neg (oob_n (show 8 + k < 27 by omega) (by omega)), cl_n (by omega), hT _ (by omega), (hR.2.2.2.2 k hk).2.2.1]
        simp only [e2]
        by_cases c : bP B k = 25 <;> simp [c]
      have next : f + nI (k + 1) * st = (f + nI k * st) + st := by
        rw [← nI_1, Int32.add_mul, Int32.one_mul, Int32.add_assoc]
      have step : ∀ v : Int32, v = nI (shU B kd n f st k) → ∃ s', fM_sheet_121l40 kd n st (f + nI k * st) (nI k) v (nI (16 + k)) h1 = some (.inl s') ∧ (s'.1 = f + nI (k + 1) * st ∧ s'.2.1 = nI (k + 1) ∧ Ag [50] h s'.2.2 ∧ (∀ i, i < 16 ∨ 24 ≤ i → rb_hI s'.2.2 50 i = rb_hI h 50 i) ∧ ∀ i, i < k + 1 → rb_hI s'.2.2 50 (16 + i) = nI (shU B kd n f st i)) := by
        intro v hv
        unfold fM_sheet_121l40
        rw [if_neg (oob_n (show 16 + k < 27 by omega) (by omega)), cl_n (by omega)]
        refine ⟨_, rfl, next.symm, nI_1 _, Ag_sI (by simp) hA, fun i hi => ?_, fun i hi => ?_⟩
        · rw [hI_sI, if_neg (by omega)]; exact hT i hi
        · rw [hI_sI]
          by_cases e : i = k
          · rw [if_pos ⟨rfl, by omega⟩, e]; exact hv
          · rw [if_neg (by omega)]; exact hI i (by omega)
      have body : fM_sheet_40b kd n st (f + nI k * st) (nI k) h1 = fM_sheet_72l40 kd n st (f + nI k * st) (nI k) (fB_entryOf kd (f + nI k * st)) h1 := by
        unfold fM_sheet_40b fB_entryOf fB_entryOf_0
        rw [f5, if_neg (nI_ge hk (by omega))]
        by_cases c0 : kd = 0
        · rw [if_pos c0, if_pos c0]
        · rw [if_neg c0, if_neg c0]
          by_cases c1 : kd = 1
          · rw [if_pos c1, if_pos c1]
          · rw [if_neg c1, if_neg c1]
      rw [body]
      unfold fM_sheet_72l40 fM_sheet_106l40
      rw [nI16]
      by_cases c3 : kd = 3
      · rw [if_pos c3]
        refine step 0 ?_
        unfold shU
        rw [if_pos (Or.inl c3)]; rfl
      · rw [if_neg c3]
        by_cases c : n ≤ nI k
        · rw [if_pos c]
          refine step 0 ?_
          unfold shU
          rw [if_pos (Or.inr (Or.inl c))]; rfl
        · rw [if_neg c, hst]
          simp only [Option.bind_some, decide_eq_true_eq]
          by_cases c2 : bP B k = 25
          · rw [if_pos c2]
            refine step 0 ?_
            unfold shU
            rw [if_pos (Or.inr (Or.inr c2))]; rfl
          · rw [if_neg c2, max_min_99]
            refine step _ ?_
            unfold shU
            rw [if_neg]
            rintro (z | z | z)
            · exact c3 z
            · exact c z
            · exact c2 z
    · rintro ⟨v, w, h1⟩ ⟨e1, e2, hA, hT, hI⟩
      dsimp only at e1 e2 hA hT hI ⊢
      subst e2
      have f5 : rb_hF h1 49 2 = nI (bN B) := (AgF (a := 49) (i := 2) hA (by decide)).trans hR.1
      unfold fM_sheet_40b
      rw [f5, if_pos (nI_le (Nat.le_refl _) (by omega))]
      exact ⟨_, rfl, hA, hT, hI⟩
  obtain ⟨x, m1, m2, m3, m4⟩ := main
  have hR' : RM x 50 (shB B kd n f st) := RM_set hR rfl rfl (by decide) m2 (by decide) ((m3 24 (by omega)).trans hR.2.1) ((m3 25 (by omega)).trans hR.2.2.1) ((m3 26 (by omega)).trans hR.2.2.2.1) (fun i hi => by
    have q := hR.2.2.2.2 i hi
    exact ⟨(m3 i (by omega)).trans q.1, (m3 (8 + i) (by omega)).trans q.2.2.1, m4 i hi⟩)
  have hW' := shB_WF hW kd n f st
  unfold fM_sheet_34
  rw [m1]
  simp only [Option.bind_some]
  by_cases c3 : kd = 3
  · rw [if_pos c3, if_pos c3]
    exact ⟨x, rfl, hR', m2⟩
  · rw [if_neg c3, if_neg c3, M_purses2 hR' hW']
    exact ⟨x, rfl, hR', m2⟩
theorem O_sheet (kd n f st : Int32) : rb_op (fB_sheet kd n f st) (fM_sheet kd n f st) := by
  refine rb_op_of (fun σ hσ => ?_)
  have hW := hσ.1
  have go : (∀ h, fB_sheet kd n f st h = fB_sheet_39 kd f st (if kd = 3 then 0 else n) h) → (∀ h, fM_sheet kd n f st h = fM_sheet_34 kd n f st (rb_sF h 49 7 0)) → rb_at σ (fB_sheet kd n f st) (fM_sheet kd n f st) := by
    intro a b
    refine ⟨if kd = 3 then -3 else nI (sumU (shB (zB σ) kd n f st) (fun i => decide (bS (zB σ) i = 0)) (bN (zB σ))) + nI (sumU (shB (zB σ) kd n f st) (fun i => decide (bS (zB σ) i = 1)) (bN (zB σ))), yT (yP (yB σ (shB (zB σ) kd n f st)) (zP σ)) (zT σ), WS_brp hσ (shB_WF hW kd n f st) ⟨rfl, fun _ _ => rfl⟩ hσ.2.2.2.1 hσ.2.2.1, fun h hI => ?_, fun h0 hI0 => ?_⟩
    · obtain ⟨h', c1, c2, c3⟩ := C_sheet hI.1 hW kd n f st _ rfl
      rw [a]
      exact ⟨h', c1, C_done hI (AgS (by decide +kernel) c3) c2 (PAc_ag hI.2.2.2.2.1 c3 (by decide +kernel)) (RWc_ag hI.2.2.2.1 c3 (by decide))⟩
    · have hI := IM_thr hI0
      obtain ⟨h', c1, c2, c3⟩ := M_sheet hI.1 hW kd n f st
      rw [b]
      exact ⟨h', c1, M_done hI0 (Ag_trans (thr_ag' h0) (AgS (by decide +kernel) c3)) c2 rfl (PAm_ag hI.2.2.2.2.1 c3 (by decide)) (RWm_ag hI.2.2.2.1 c3 (by decide))⟩
  rcases rg_or kd (n := 3) (by omega) with ⟨k, hk, rfl⟩ | hv
  · have i1 : fM_in (nI k) 0 3 = true := M_in_y hk (by omega) rfl
    have k3 : ¬ (3 : Int32) < nI k := nI_nlt (a := 3) hk (by omega)
    by_cases n8 : n ≤ 8
    · by_cases c3 : k = 3
      · subst c3
        refine go (fun h => ?_) (fun h => ?_)
        · unfold fB_sheet fB_sheet_0 fB_sheet_29
          rw [if_neg (by decide), if_neg (by decide), if_pos n8, if_pos (by decide), if_pos (by decide), if_pos (by decide)]
        · unfold fM_sheet fM_sheet_0
          rw [i1, if_pos rfl, if_pos n8, if_pos (by decide)]
      · have l3 : ¬ (3 : Int32) ≤ nI k := nI_ge (b := 3) (by omega) (by omega)
        have e3 : ¬ nI k = (3 : Int32) := fun z => c3 ((nI_eq (b := 3) (by omega) (by omega)).mp z)
        by_cases n0 : 0 ≤ n
        · refine go (fun h => ?_) (fun h => ?_)
          · unfold fB_sheet fB_sheet_0 fB_sheet_29
            rw [if_neg (nI_pos (by omega)), if_neg k3, if_pos n8, if_neg l3, if_pos n0, if_neg e3, if_neg e3]
          · unfold fM_sheet fM_sheet_0
            rw [i1, if_pos rfl, if_pos n8, if_neg l3, if_pos n0]
        · refine at_refuse hσ (-2) (fun h hI => ?_) (fun h hI => ?_)
          · unfold fB_sheet fB_sheet_0
            rw [if_neg (nI_pos (by omega)), if_neg k3, if_pos n8, if_neg l3, if_neg n0]
          · unfold fM_sheet fM_sheet_0
            rw [i1, if_pos rfl, if_pos n8, if_neg l3, if_neg n0]
    · refine at_refuse hσ (-1) (fun h hI => ?_) (fun h hI => ?_)
      · unfold fB_sheet fB_sheet_0
        rw [if_neg (nI_pos (by omega)), if_neg k3, if_neg n8]
      · unfold fM_sheet fM_sheet_0
        rw [i1, if_pos rfl, if_neg n8]
  · refine at_refuse hσ (-1) (fun h hI => ?_) (fun h hI => ?_)
    · unfold fB_sheet fB_sheet_0
      rcases hv with hv | ⟨hv, hv2⟩
      · rw [if_pos hv]
      · rw [if_neg hv, if_pos (show (3 : Int32) < kd from hv2)]
    · unfold fM_sheet fM_sheet_0
      rw [M_in_no (M := 3) hv, if_neg (by decide)]
