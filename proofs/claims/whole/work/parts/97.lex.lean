/-! the model's reader: what it reads (X, of which the first top count), where it is, and whether it has found a fault -/
def rp_M (h : rb_H) (a : Nat) (X : List Nat) (top p : Nat) (w : Int32) : Prop := rb_hR h 0 = a ∧ (a = 52 ∨ a = 55 ∨ a = 56) ∧ X.length ≤ rb_len a ∧ rb_hF h 49 9 = nI X.length ∧ rb_hF h 49 10 = nI top ∧ rb_hF h 49 11 = nI p ∧ rb_hF h 49 12 = w ∧ ∀ i, i < X.length → rb_hI h a i = rb_i2b (nI (X.getD i 0))
/-- the sign at a place; -1: none -/
def hereN (X : List Nat) (top p : Nat) : Int32 := if p < min X.length top then nI (X.getD p 0) else -1
/-- the text can be read -/
def rp_X (X : List Nat) (top : Nat) : Prop := X.length ≤ 80 ∧ (∀ c, c ∈ X → c < 256) ∧ top ≤ 80
theorem hereN_y {X : List Nat} {top p : Nat} (h : p < min X.length top) : hereN X top p = nI (X.getD p 0) := if_pos h
theorem hereN_n {X : List Nat} {top p : Nat} (h : ¬ p < min X.length top) : hereN X top p = -1 := if_neg h
theorem i2b_255 : ∀ c, c < 256 → rb_i2b (nI c) &&& 255 = nI c := by unfold rb_i2b; decide +kernel
theorem i2b_low : ∀ c, c < 128 → rb_i2b (nI c) = nI c := by unfold rb_i2b; decide +kernel
theorem m1_nI {k : Nat} (h : k < 2 ^ 31) : ¬ (-1 : Int32) = nI k := fun z => nI_pos h (by rw [← z]; decide)
theorem ty_read {a : Nat} (h : a = 52 ∨ a = 55 ∨ a = 56) : rb_ty a = 13 := by
  rcases h with rfl | rfl | rfl <;> decide +kernel
theorem len_read {a : Nat} (h : a = 52 ∨ a = 55 ∨ a = 56) : rb_len a ≤ 80 := by
  rcases h with rfl | rfl | rfl <;> decide +kernel
section
variable {h : rb_H} {a : Nat} {X : List Nat} {top p : Nat} {w : Int32}
theorem rp_M_at (hM : rp_M h a X top p w) (q : Nat) : rp_M (rb_sF h 49 11 (nI q)) a X top q w := by
  obtain ⟨m1, m2, m3, m4, m5, m6, m7, m8⟩ := hM
  refine ⟨?_, m2, m3, ?_, ?_, ?_, ?_, fun i hi => ?_⟩
  · simpa [hI_sI, hI_sJ, hI_sF, hI_sR, hI_cp, hJ_sI, hJ_sJ, hJ_sF, hJ_sR, hJ_cp, hF_sI, hF_sJ, hF_sF, hF_sR, hF_cp, hR_sI, hR_sJ, hR_sF, hR_sR, hR_cp] using m1
  · simpa [hI_sI, hI_sJ, hI_sF, hI_sR, hI_cp, hJ_sI, hJ_sJ, hJ_sF, hJ_sR, hJ_cp, hF_sI, hF_sJ, hF_sF, hF_sR, hF_cp, hR_sI, hR_sJ, hR_sF, hR_sR, hR_cp] using m4
  · simpa [hI_sI, hI_sJ, hI_sF, hI_sR, hI_cp, hJ_sI, hJ_sJ, hJ_sF, hJ_sR, hJ_cp, hF_sI, hF_sJ, hF_sF, hF_sR, hF_cp, hR_sI, hR_sJ, hR_sF, hR_sR, hR_cp] using m5
  · simp [hI_sI, hI_sJ, hI_sF, hI_sR, hI_cp, hJ_sI, hJ_sJ, hJ_sF, hJ_sR, hJ_cp, hF_sI, hF_sJ, hF_sF, hF_sR, hF_cp, hR_sI, hR_sJ, hR_sF, hR_sR, hR_cp]
  · simpa [hI_sI, hI_sJ, hI_sF, hI_sR, hI_cp, hJ_sI, hJ_sJ, hJ_sF, hJ_sR, hJ_cp, hF_sI, hF_sJ, hF_sF, hF_sR, hF_cp, hR_sI, hR_sJ, hR_sF, hR_sR, hR_cp] using m7
  · simpa [hI_sI, hI_sJ, hI_sF, hI_sR, hI_cp, hJ_sI, hJ_sJ, hJ_sF, hJ_sR, hJ_cp, hF_sI, hF_sJ, hF_sF, hF_sR, hF_cp, hR_sI, hR_sJ, hR_sF, hR_sR, hR_cp] using m8 i hi
theorem rp_M_w (hM : rp_M h a X top p w) (w' : Int32) : rp_M (rb_sF h 49 12 w') a X top p w' := by
  obtain ⟨m1, m2, m3, m4, m5, m6, m7, m8⟩ := hM
  refine ⟨?_, m2, m3, ?_, ?_, ?_, ?_, fun i hi => ?_⟩
  · simpa [hI_sI, hI_sJ, hI_sF, hI_sR, hI_cp, hJ_sI, hJ_sJ, hJ_sF, hJ_sR, hJ_cp, hF_sI, hF_sJ, hF_sF, hF_sR, hF_cp, hR_sI, hR_sJ, hR_sF, hR_sR, hR_cp] using m1
  · simpa [hI_sI, hI_sJ, hI_sF, hI_sR, hI_cp, hJ_sI, hJ_sJ, hJ_sF, hJ_sR, hJ_cp, hF_sI, hF_sJ, hF_sF, hF_sR, hF_cp, hR_sI, hR_sJ, hR_sF, hR_sR, hR_cp] using m4
  · simpa [hI_sI, hI_sJ, hI_sF, hI_sR, hI_cp, hJ_sI, hJ_sJ, hJ_sF, hJ_sR, hJ_cp, hF_sI, hF_sJ, hF_sF, hF_sR, hF_cp, hR_sI, hR_sJ, hR_sF, hR_sR, hR_cp] using m5
  · simpa [hI_sI, hI_sJ, hI_sF, hI_sR, hI_cp, hJ_sI, hJ_sJ, hJ_sF, hJ_sR, hJ_cp, hF_sI, hF_sJ, hF_sF, hF_sR, hF_cp, hR_sI, hR_sJ, hR_sF, hR_sR, hR_cp] using m6
  · simp [hI_sI, hI_sJ, hI_sF, hI_sR, hI_cp, hJ_sI, hJ_sJ, hJ_sF, hJ_sR, hJ_cp, hF_sI, hF_sJ, hF_sF, hF_sR, hF_cp, hR_sI, hR_sJ, hR_sF, hR_sR, hR_cp]
  · simpa [hI_sI, hI_sJ, hI_sF, hI_sR, hI_cp, hJ_sI, hJ_sJ, hJ_sF, hJ_sR, hJ_cp, hF_sI, hF_sJ, hF_sF, hF_sR, hF_cp, hR_sI, hR_sJ, hR_sF, hR_sR, hR_cp] using m8 i hi
theorem rp_M_ag {L : List Nat} {h' : rb_H} (hM : rp_M h a X top p w) (hA : Ag L h h') (hL : NL [2000, 52, 55, 56, 1009, 1010, 1011, 1012] L = true) : rp_M h' a X top p w := by
  obtain ⟨m1, m2, m3, m4, m5, m6, m7, m8⟩ := hM
  have ha : a ∉ L := by
    rcases m2 with rfl | rfl | rfl <;> exact NL_at hL (by decide)
  exact ⟨(AgR hA (NL_at hL (by decide))).trans m1, m2, m3, (AgF hA (NL_at hL (by decide))).trans m4, (AgF hA (NL_at hL (by decide))).trans m5, (AgF hA (NL_at hL (by decide))).trans m6, (AgF hA (NL_at hL (by decide))).trans m7, fun i hi => (AgI hA ha i).trans (m8 i hi)⟩
theorem rp_fine (hM : rp_M h a X top p (-1)) : fM_fine h = true := by
  unfold fM_fine fM_fine_0
  rw [hM.2.2.2.2.2.2.1, if_pos rfl]
theorem rp_ill (hM : rp_M h a X top p w) (hw : w ≠ -1) : fM_fine h = false := by
  unfold fM_fine fM_fine_0
  rw [hM.2.2.2.2.2.2.1, if_neg hw]
theorem rp_here (hM : rp_M h a X top p w) (hX : rp_X X top) (hp : p ≤ 100) : fM_here h = some (hereN X top p) := by
  obtain ⟨m1, m2, m3, m4, m5, m6, m7, m8⟩ := hM
  obtain ⟨x1, x2, x3⟩ := hX
  unfold fM_here fM_here_0
  rw [m4, m5, m6]
  by_cases c1 : p < X.length
  · rw [if_neg (nI_ge c1 (by omega))]
    by_cases c2 : p < top
    · rw [if_neg (nI_ge c2 (by omega)), m1, if_pos (ty_read m2), if_neg (oob_n (show p < rb_len a by omega) (by omega)), cl_n (by omega), m8 p c1, i2b_255 _ (x2 _ (getD_mem c1)), hereN_y (by omega)]
    · rw [if_pos (nI_le (by omega) (by omega)), hereN_n (by omega)]
  · rw [if_pos (nI_le (by omega) (by omega)), hereN_n (by omega)]
theorem rp_fault (hM : rp_M h a X top p (-1)) : fM_fault (rb_hF h 49 11) h = rb_sF h 49 12 (nI p) := by
  unfold fM_fault fM_fault_0
  rw [rp_fine hM, if_pos rfl, hM.2.2.2.2.2.1]
theorem rp_fault2 (hM : rp_M h a X top p w) (hw : w ≠ -1) (v : Int32) : fM_fault v h = h := by
  unfold fM_fault fM_fault_0
  rw [rp_ill hM hw, if_neg (by decide)]
theorem rp_pass (hM : rp_M h a X top p (-1)) (hX : rp_X X top) (hp : p ≤ 100) (c : Int32) : fM_passes1 c h = if hereN X top p = c then some (true, rb_sF h 49 11 (nI (p + 1))) else some (false, h) := by
  unfold fM_passes1 fM_passes1_0
  rw [rp_fine hM, if_pos rfl, rp_here hM hX hp, Option.bind_some, hM.2.2.2.2.2.1, nI_1]
theorem rp_pass2 (hM : rp_M h a X top p w) (hw : w ≠ -1) (c : Int32) : fM_passes1 c h = some (false, h) := by
  unfold fM_passes1 fM_passes1_0
  rw [rp_ill hM hw, if_neg (by decide)]
/-- one of some signs that follow each other -/
theorem rp_oneOf (hM : rp_M h a X top p (-1)) (hX : rp_X X top) (hp : p ≤ 100) {f m : Nat} (hf : f + m ≤ 128) (h1 : 1 ≤ m) : (∃ c, c < 256 ∧ p < min X.length top ∧ X.getD p 0 = c ∧ f ≤ c ∧ c < f + m ∧ fM_oneOf (nI f) (nI m) h = some (nI (c - f), rb_sF h 49 11 (nI (p + 1)))) ∨ ((¬ p < min X.length top ∨ X.getD p 0 < f ∨ f + m ≤ X.getD p 0) ∧ fM_oneOf (nI f) (nI m) h = some (0, rb_sF h 49 12 (nI p))) := by
  unfold fM_oneOf fM_oneOf_0
  rw [rp_fine hM, if_pos rfl, rp_here hM hX hp, Option.bind_some]
  have e : nI f + nI m - 1 = nI (f + m - 1) := by
    rw [nI_add]
    exact nI_sub (b := 1) (by omega)
  rw [e]
  have low : fM_fault (rb_hF h 49 11) h = rb_sF h 49 12 (nI p) := rp_fault hM
  by_cases c0 : p < min X.length top
  · rw [hereN_y c0]
    have hc := hX.2.1 _ (getD_mem (d := 0) (show p < X.length by omega))
    rw [M_in_n (by omega) (by omega) (by omega)]
    by_cases c1 : f ≤ X.getD p 0 ∧ X.getD p 0 < f + m
    · rw [if_pos (show (decide (f ≤ X.getD p 0) && decide (X.getD p 0 ≤ f + m - 1)) = true by rw [decide_eq_true c1.1, decide_eq_true (show X.getD p 0 ≤ f + m - 1 by omega)]; rfl)]
      refine Or.inl ⟨X.getD p 0, hc, c0, rfl, c1.1, c1.2, ?_⟩
      have q := hM
      obtain ⟨m1, m2, m3, m4, m5, m6, m7, m8⟩ := hM
      have eR : rb_hR (rb_sF h 49 11 (rb_hF h 49 11 + 1)) 0 = a := m1
      have eF : rb_hF (rb_sF h 49 11 (rb_hF h 49 11 + 1)) 49 11 - 1 = nI p := by
        rw [hF_sF, if_pos ⟨rfl, rfl⟩, m6, nI_1]
        exact nI_sub (b := 1) (by omega)
      have := hX.1
      rw [eR, if_pos (ty_read m2), eF, if_neg (oob_n (show p < rb_len a by omega) (by omega)), cl_n (by omega), hI_sF, m8 p (by omega), i2b_low _ (by omega), nI_sub c1.1, m6, nI_1]
    · rw [if_neg (show ¬ (decide (f ≤ X.getD p 0) && decide (X.getD p 0 ≤ f + m - 1)) = true by rw [Bool.and_eq_true, decide_eq_true_eq, decide_eq_true_eq]; omega)]
      refine Or.inr ⟨Or.inr (by omega), ?_⟩
      simp only [rb_lt]
      rw [low]
  · rw [hereN_n c0]
    have no : fM_in (-1) (nI f) (nI (f + m - 1)) = false := by
      unfold fM_in fM_in_0
      rw [if_pos (Int32.lt_of_lt_of_le (show (-1 : Int32) < 0 by decide) (nI_pos' (by omega)))]
    rw [no, if_neg (by decide)]
    refine Or.inr ⟨Or.inl c0, ?_⟩
    simp only [rb_lt]
    rw [low]
theorem rp_oneOf2 (hM : rp_M h a X top p w) (hw : w ≠ -1) (f m : Int32) : fM_oneOf f m h = some (0, h) := by
  unfold fM_oneOf fM_oneOf_0
  rw [rp_ill hM hw, if_neg (by decide)]
theorem rp_right (hM : rp_M h a X top p (-1)) (hX : rp_X X top) (hp : p ≤ 100) : fM_wasRight h = if p < X.length then (false, rb_sF h 49 12 (nI p)) else (true, h) := by
  unfold fM_wasRight fM_wasRight_0 fM_wasRight_19
  have := hX.1
  rw [hM.2.2.2.1, hM.2.2.2.2.2.1]
  by_cases c : p < X.length
  · rw [if_neg (nI_ge c (by omega)), if_pos c]
    simp only [rb_lt]
    have e := rp_fault hM
    rw [hM.2.2.2.2.2.1] at e
    rw [e, rp_ill (rp_M_w hM (nI p)) (fun z => m1_nI (show p < 2 ^ 31 by omega) z.symm)]
  · rw [if_pos (nI_le (by omega) (by omega)), if_neg c, rp_fine hM]
theorem rp_right2 (hM : rp_M h a X top p w) (hX : rp_X X top) (hw : w ≠ -1) : fM_wasRight h = (false, h) := by
  unfold fM_wasRight fM_wasRight_0 fM_wasRight_19
  split
  · rw [rp_ill hM hw]
  · simp only [rb_lt]
    rw [rp_fault2 hM hw, rp_ill hM hw]
theorem rp_need (hM : rp_M h a X top p (-1)) (hX : rp_X X top) (hp : p ≤ 100) (c : Int32) : fM_need c h = if hereN X top p = c then some (rb_sF h 49 11 (nI (p + 1))) else some (rb_sF h 49 12 (nI p)) := by
  unfold fM_need fM_need_0
  rw [rp_pass hM hX hp]
  by_cases e : hereN X top p = c
  · rw [if_pos e, if_pos e]
    rfl
  · rw [if_neg e, if_neg e, Option.bind_some]
    simp only [rb_lt]
    rw [if_neg (by decide), rp_fault hM]
theorem rp_need2 (hM : rp_M h a X top p w) (hw : w ≠ -1) (c : Int32) : fM_need c h = some h := by
  unfold fM_need fM_need_0
  rw [rp_pass2 hM hw, Option.bind_some]
  simp only [rb_lt]
  rw [if_neg (by decide), rp_fault2 hM hw]
end
