/-! the model's board -/
section
variable {h : rb_H} {o a : Nat} {B : sBd}
theorem i0 (x : Int32) : x + 0 = x := by rw [← Int32.toBitVec_inj, Int32.toBitVec_add]; exact BitVec.add_zero _
theorem nI8 (k : Nat) : (8 : Int32) + nI k = nI (8 + k) := nI_add 8 k
theorem nI16 (k : Nat) : (16 : Int32) + nI k = nI (16 + k) := nI_add 16 k
theorem M_in_n {x a b : Nat} (hx : x < 2 ^ 31) (ha : a < 2 ^ 31) (hb : b < 2 ^ 31) : fM_in (nI x) (nI a) (nI b) = (decide (a ≤ x) && decide (x ≤ b)) := by
  unfold fM_in fM_in_0
  simp only [nI_ltI hx ha, nI_ltI hb hx]
  by_cases h1 : x < a
  · have : ¬ a ≤ x := by omega
    simp [h1, this]
  · by_cases h2 : b < x
    · have : ¬ x ≤ b := by omega
      simp [h1, h2, this]
    · have h3 : a ≤ x := by omega
      have h4 : x ≤ b := by omega
      simp [h1, h2, h3, h4]
theorem M_in_neg {x : Int32} (hx : x < 0) (b : Int32) : fM_in x 0 b = false := by
  unfold fM_in fM_in_0
  rw [if_pos hx]
theorem M_isPiece_y (hR : RM h a B) (hW : WF B) {p : Nat} (hp : p < bN B) : fM_isPiece (nI p) h = true := by
  have h8 := hW.1
  unfold fM_isPiece fM_isPiece_0
  rw [hR.1, show nI (bN B) - 1 = nI (bN B - 1) by rw [show bN B = bN B - 1 + 1 by omega]; exact nI_pred _]
  rw [show (0 : Int32) = nI 0 from rfl, M_in_n (by omega) (by omega) (by omega)]
  have : p ≤ bN B - 1 := by omega
  simp [this]
theorem M_isPiece_n (hR : RM h a B) (hW : WF B) {x : Int32} (hx : ∀ p, p < bN B → x ≠ nI p) : fM_isPiece x h = false := by
  have h8 := hW.1
  unfold fM_isPiece fM_isPiece_0
  by_cases h0 : x < 0
  · exact M_in_neg h0 _
  · obtain ⟨j, hj, rfl⟩ := nI_of h0
    have hj2 : ¬ j < bN B := fun q => hx j q rfl
    rw [hR.1]
    by_cases hn : bN B = 0
    · rw [hn]
      unfold fM_in fM_in_0
      rw [if_neg h0, if_pos]
      have hlt : (nI 0 - 1 : Int32) < 0 := by decide
      exact Int32.lt_of_lt_of_le hlt (nI_pos' hj)
    · rw [show nI (bN B) - 1 = nI (bN B - 1) by rw [show bN B = bN B - 1 + 1 by omega]; exact nI_pred _]
      rw [show (0 : Int32) = nI 0 from rfl, M_in_n hj (by omega) (by omega)]
      have : ¬ j ≤ bN B - 1 := by omega
      simp [this]
theorem M_isOut (hR : RM h a B) (hW : WF B) {p : Nat} (hp : p < bN B) : fM_isOut a (nI p) h = some (decide (bP B p = 25)) := by
  have h8 := hW.1
  have hP := (hW.2.2.1 p hp).2.2.1
  unfold fM_isOut fM_isOut_0
  simp only [nI8, cl_n (show 8 + p < 2 ^ 31 by omega), if_neg (oob_n (show 8 + p < 27 by omega) (by omega)), (hR.2.2.2.2 p hp).2.2.1]
  by_cases h25 : bP B p = 25
  · rw [if_pos (by rw [h25]; rfl)]
    simp [h25]
  · rw [if_neg (by intro q; exact h25 ((nI_eq (by omega) (by omega)).mp (show nI (bP B p) = nI 25 from q)))]
    simp [h25]
theorem M_on (hR : RM h a B) (hW : WF B) {s : Nat} (hs : s < 100) : fM_on a (nI s) h = some (if who B s < bN B then nI (who B s) else -1) := by
  have h8 := hW.1
  have hle : who B s ≤ bN B := fst1_le _ _
  unfold fM_on fM_on_0
  have body : ∀ k, k < bN B → fM_on_2b a (nI s) (nI k) h = if bP B k = s then some (.inr (.inl (nI k))) else some (.inl (nI (k + 1))) := by
    intro k hk
    have hw := hW.2.2.1 k hk
    unfold fM_on_2b
    simp only [hR.1, if_neg (nI_ge hk (show bN B < 2 ^ 31 by omega)), nI8, cl_n (show 8 + k < 2 ^ 31 by omega), if_neg (oob_n (show 8 + k < 27 by omega) (by omega)), (hR.2.2.2.2 k hk).2.2.1, nI_1]
    by_cases e : bP B k = s
    · rw [if_pos e, if_pos (by rw [e])]
    · rw [if_neg e, if_neg (fun z => e ((nI_eq (by omega) (by omega)).mp z))]
  by_cases hw : who B s < bN B
  · rw [if_pos hw]
    refine rb_runB (fun k => nI k) (who B s) (.inl (nI (who B s))) rfl (by omega) (fun k hk => ?_) ?_ rfl
    · have := fst1_no hk
      rw [body k (by omega), if_neg (of_decide_eq_false this)]
    · have h9 : bP B (who B s) = s := of_decide_eq_true (fst1_is (p := fun i => decide (bP B i = s)) hw)
      rw [body _ hw, if_pos h9]
  · rw [if_neg hw]
    have e : who B s = bN B := by omega
    refine rb_runB (fun k => nI k) (bN B) (.inr ()) rfl (by omega) (fun k hk => ?_) ?_ rfl
    · have := fst1_none.mp e k hk
      rw [body k hk, if_neg (of_decide_eq_false this)]
    · unfold fM_on_2b
      rw [hR.1, if_pos (nI_le (Nat.le_refl _) (by omega))]
theorem M_purses1 (hR : RM h a B) (hW : WF B) {t : Nat} (ht : t < 2) : fM_purses a (nI t) h = some (nI (sumU B (fun i => decide (bS B i = t)) (bN B))) := by
  have h8 := hW.1
  unfold fM_purses fM_purses_0
  refine rb_runB (fun k => (nI (sumU B (fun i => decide (bS B i = t)) k), nI k)) (bN B) (nI (sumU B (fun i => decide (bS B i = t)) (bN B))) rfl (by omega) (fun k hk => ?_) ?_ rfl
  · have hw := hW.2.2.1 k hk
    show fM_purses_5b a (nI t) _ (nI k) h = _
    unfold fM_purses_5b fM_purses_31l5 fM_purses_42l5
    have e2 : ¬ nI t = (2 : Int32) := fun z => by have := (nI_eq (by omega) (by omega)).mp (show nI t = nI 2 from z); omega
    simp only [hR.1, if_neg (nI_ge hk (show bN B < 2 ^ 31 by omega)), if_neg e2, nI16, cl_n (show 16 + k < 2 ^ 31 by omega), cl_n (show k < 2 ^ 31 by omega), if_neg (oob_n (show k < 8 by omega) (by omega)), if_neg (oob_n (show 16 + k < 27 by omega) (by omega)), (hR.2.2.2.2 k hk).2.1, (hR.2.2.2.2 k hk).2.2.2, nI_1, nI_add]
    by_cases e : bS B k = t
    · rw [if_pos (by rw [e])]
      simp [sumU, fb_sm, e]
    · rw [if_neg (fun z => e ((nI_eq (by omega) (by omega)).mp z)), i0]
      simp [sumU, fb_sm, e]
  · show fM_purses_5b a (nI t) _ (nI (bN B)) h = _
    unfold fM_purses_5b
    rw [hR.1, if_pos (nI_le (Nat.le_refl _) (by omega))]
theorem sumU_two (hW : WF B) : ∀ n, n ≤ bN B → sumU B (fun i => decide (bS B i = 0)) n + sumU B (fun i => decide (bS B i = 1)) n = fb_sm (fun i => bU B i) n
  | 0, _ => rfl
  | n + 1, hn => by
    have ih := sumU_two hW n (by omega)
    have hs := (hW.2.2.1 n (by omega)).2.1
    show (sumU B _ n + _) + (sumU B _ n + _) = fb_sm _ n + bU B n
    rcases (show bS B n = 0 ∨ bS B n = 1 by omega) with e | e <;> simp [e] <;> omega
theorem M_purses2 (hR : RM h a B) (hW : WF B) : fM_purses a 2 h = some (nI (sumU B (fun i => decide (bS B i = 0)) (bN B)) + nI (sumU B (fun i => decide (bS B i = 1)) (bN B))) := by
  have h8 := hW.1
  rw [nI_add, sumU_two hW _ (Nat.le_refl _)]
  unfold fM_purses fM_purses_0
  refine rb_runB (fun k => (nI (fb_sm (fun i => bU B i) k), nI k)) (bN B) (nI (fb_sm (fun i => bU B i) (bN B))) rfl (by omega) (fun k hk => ?_) ?_ rfl
  · have hw := hW.2.2.1 k hk
    show fM_purses_5b a 2 _ (nI k) h = _
    unfold fM_purses_5b fM_purses_31l5 fM_purses_42l5
    simp only [hR.1, if_neg (nI_ge hk (show bN B < 2 ^ 31 by omega)), if_true, nI16, cl_n (show 16 + k < 2 ^ 31 by omega), if_neg (oob_n (show 16 + k < 27 by omega) (by omega)), (hR.2.2.2.2 k hk).2.2.2, nI_1, nI_add]
    rfl
  · show fM_purses_5b a 2 _ (nI (bN B)) h = _
    unfold fM_purses_5b
    rw [hR.1, if_pos (nI_le (Nat.le_refl _) (by omega))]
theorem M_inBits (hR : RM h a B) (hW : WF B) : fM_inBits a h = some (bits (fun i => decide (bP B i ≠ 25)) (bN B)) := by
  have h8 := hW.1
  unfold fM_inBits fM_inBits_0
  refine rb_runB (fun k => (bits (fun i => decide (bP B i ≠ 25)) k, nI k)) (bN B) (bits (fun i => decide (bP B i ≠ 25)) (bN B)) rfl (by omega) (fun k hk => ?_) ?_ rfl
  · show fM_inBits_4b a _ (nI k) h = _
    unfold fM_inBits_4b fM_inBits_28l4
    simp only [hR.1, if_neg (nI_ge hk (show bN B < 2 ^ 31 by omega)), M_isOut hR hW hk, nI_1, Option.bind_some]
    by_cases h25 : bP B k = 25 <;> simp [h25, bits, fo]
  · show fM_inBits_4b a _ (nI (bN B)) h = _
    unfold fM_inBits_4b
    rw [hR.1, if_pos (nI_le (Nat.le_refl _) (by omega))]
theorem M_inMany (hR : RM h a B) (hW : WF B) : fM_inMany a h = some (nI (fb_ct (fun i => decide (bP B i ≠ 25)) (bN B))) := by
  have h8 := hW.1
  unfold fM_inMany fM_inMany_0
  refine rb_runB (fun k => (nI (fb_ct (fun i => decide (bP B i ≠ 25)) k), nI k)) (bN B) (nI (fb_ct (fun i => decide (bP B i ≠ 25)) (bN B))) rfl (by omega) (fun k hk => ?_) ?_ rfl
  · show fM_inMany_4b a _ (nI k) h = _
    unfold fM_inMany_4b fM_inMany_26l4
    simp only [hR.1, if_neg (nI_ge hk (show bN B < 2 ^ 31 by omega)), M_isOut hR hW hk, nI_1, Option.bind_some, i0]
    by_cases h25 : bP B k = 25 <;> simp [h25, fb_ct, nI_1]
  · show fM_inMany_4b a _ (nI (bN B)) h = _
    unfold fM_inMany_4b
    rw [hR.1, if_pos (nI_le (Nat.le_refl _) (by omega))]
end
