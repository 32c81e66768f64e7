/-! the class's reader of rules as a machine over lists: what it has emitted (the latest first), what waits (the latest first), the depth, the digits, whether it wants a thing, where it has compared -/
theorem rv_lo {a : Int32} {l : List Int32} {i : Nat} (h : i < l.length) : (a :: l).reverse.getD i 0 = l.reverse.getD i 0 := by
  rw [List.reverse_cons, getD_app, List.length_reverse, if_pos h]
theorem rv_at {a : Int32} {l : List Int32} : (a :: l).reverse.getD l.length 0 = a := by
  rw [List.reverse_cons, getD_app, List.length_reverse, if_neg (Nat.lt_irrefl _), if_pos rfl]
theorem rp_nar : ∀ c, c < 256 → narrow .char (.int (nI c)) = .int (nI c) := by decide +kernel
section
variable {h : rb_H} {X : List Nat}
theorem rp_at (hX : TXc h X) (hl : X.length ≤ 80) (hc : ∀ c, c ∈ X → c < 256) {p : Nat} (hp : p < X.length) : fT_at (nI p) h = some (nI (X.getD p 0)) := by
  unfold fT_at fT_at_0
  rw [if_neg (nI_pos (by omega)), hX.1, if_neg (nI_ge hp (by omega)), if_neg (show ¬ (80 : Int32) ≤ nI p from nI_ge (b := 80) (by omega) (by omega)), if_neg (oob_n (show p < 80 by omega) (by omega)), cl_n (by omega), hX.2 p hp, if_pos (rp_nar _ (hc _ (getD_mem hp)))]
theorem rp_at0 (hX : TXc h X) {p : Nat} (hp : X.length ≤ p) (h2 : p < 2 ^ 31) : fT_at (nI p) h = some 0 := by
  unfold fT_at fT_at_0
  rw [if_neg (nI_pos h2), hX.1, if_pos (nI_le hp h2), if_pos (show narrow .char (.int 0) = .int 0 from rp_nar 0 (by decide))]
end
/-! the letters of things -/
def rp_h0 : rb_H := (fun _ _ => 0, fun _ _ => 0, fun _ _ => 0, fun _ => 0)
theorem rb_iter_more {S Y : Type} {f : S → Option (S ⊕ Y)} {x : Y} : ∀ (n m : Nat) (s : S), rb_iter n f s = some x → rb_iter (m + n) f s = some x
  | 0, m, s, h => by cases h
  | n + 1, m, s, h => by
    show (match f s with | none => none | some (.inl s') => rb_iter (m + n) f s' | some (.inr x) => some x) = _
    have h : (match f s with | none => none | some (.inl s') => rb_iter n f s' | some (.inr x) => some x) = some x := h
    cases e : f s with
    | none => rw [e] at h; cases h
    | some r =>
      rw [e] at h
      cases r with
      | inl s' => exact rb_iter_more n m s' h
      | inr y => exact h
theorem rb_iter_few {S Y : Type} {f : S → Option (S ⊕ Y)} {x : Y} {s : S} (n : Nat) (hn : n < 1000) (h : rb_iter n f s = some x) : rb_iter rb_fuel f s = some x := by
  rw [rb_fuel_eq, show (4294967296 : Nat) = (4294967296 - n) + n by omega]
  exact rb_iter_more n _ s h
theorem rp_ix7 : ∀ c, c < 256 → rb_iter 9 (fun s => fJL_indexOfChar_7b 200 7 (rb_i2b (nI c)) s rp_h0) (0 : Int32) = some (if fM_letterOf (nI c) = -1 then .inr () else .inl (fM_letterOf (nI c))) := by decide +kernel
theorem rp_enc : ∀ c, c < 256 → fJL_canEncode (nI c) = true := by decide +kernel
theorem rp_ixT {c : Nat} (hc : c < 256) (h : rb_H) : fJS_indexOf1 100 (nI c) h = some (fM_letterOf (nI c)) := by
  have e : (rb_iter rb_fuel (fun s => fJL_indexOfChar_7b 200 7 (rb_i2b (nI c)) s h) (0 : Int32)) = _ := rb_iter_few 9 (by decide) (rp_ix7 c hc)
  have e1 : fJL_indexOfChar 200 (nI c) 0 7 h = some (fM_letterOf (nI c)) := by
    unfold fJL_indexOfChar fJL_indexOfChar_0
    rw [e]
    by_cases z : fM_letterOf (nI c) = -1
    · rw [if_pos z, z]; rfl
    · rw [if_neg z]; rfl
  have e2 : fJS_length 100 = some 7 := by decide +kernel
  have e3 : fJS_isLatin1 100 = true := by decide +kernel
  unfold fJS_indexOf1 fJS_indexOf1_0 fJS_indexOf2 fJS_indexOf2_0
  rw [if_pos e3, e2]
  simp only [Option.bind_some]
  unfold fJL_indexOf fJL_indexOf_0
  have e4 : rb_max (0 : Int32) 0 = 0 := by decide +kernel
  have e5 : rb_min (7 : Int32) (Int32.ofNat (rb_slL.getD (100 + 100 - 200) 0)) = 7 := by decide +kernel
  rw [if_pos (rp_enc c hc), e4, e5, if_pos (by decide), e1]
  rfl
/-! the machine -/
abbrev sM : Type := List Int32 × List Int32 × Nat × Nat × Bool × (Nat → Bool)
noncomputable def mRel (r : Int32) : List Int32 → List Int32 → List Int32 × List Int32
  | o, [] => (o, [])
  | o, a :: w => if fU_rankOf a < r then (o, a :: w) else mRel r ((1000 + a) :: o) w
def mDig (x : Int32) (w : List Int32) (d g : Nat) (n : Bool) (c : Nat → Bool) : List Int32 → Option sM
  | [] => none
  | y :: o => some ((10 * y + x) :: o, w, d, g + 1, n, c)
noncomputable def mTake : sM → Int32 → Option sM
  | (o, w, d, g, n, c), x =>
    if fB_isDigit x = true then
      (if n = true then some ((x - 48) :: o, w, d, 1, false, c) else if g < 1 then none else if 3 ≤ g then none else mDig (x - 48) w d g n c o)
    else if n = true then
      (if x = 45 then some (o, 256 :: w, d, 0, n, c)
      else if x = 40 then (if d < 4 then some (o, 40 :: w, d + 1, 0, n, fun i => if i = d + 1 then false else c i) else none)
      else if 0 ≤ fM_letterOf x then some ((-1 - fM_letterOf x) :: o, w, d, 0, false, c) else none)
    else if x = 41 then (if 1 ≤ d then some ((mRel 1 o w).1, (mRel 1 o w).2.tail, d - 1, 0, n, c) else none)
    else if fU_rankOf x < 1 then none
    else if fU_rankOf x = 1 then (if c d = true then none else some ((mRel 1 o w).1, x :: (mRel 1 o w).2, d, 0, true, fun i => if i = d then true else c i))
    else some ((mRel (fU_rankOf x) o w).1, x :: (mRel (fU_rankOf x) o w).2, d, 0, true, c)
theorem mRel_len (r : Int32) : ∀ (w o : List Int32), (mRel r o w).1.length + (mRel r o w).2.length = o.length + w.length
  | [], o => rfl
  | a :: w, o => by
    unfold mRel
    split
    · rfl
    · rw [mRel_len r w]
      simp only [List.length_cons]
      omega
theorem mTake_len {o w : List Int32} {d g : Nat} {n : Bool} {c : Nat → Bool} {x : Int32} {s' : sM} (hd : d ≤ 4) (h : mTake (o, w, d, g, n, c) x = some s') : s'.1.length + s'.2.1.length ≤ o.length + w.length + 1 ∧ s'.2.2.1 ≤ 4 := by
  have e1 := mRel_len 1 w o
  have e2 := mRel_len (fU_rankOf x) w o
  unfold mTake at h
  dsimp only at h
  split at h
  · split at h
    · cases h; exact ⟨by simp only [List.length_cons]; omega, hd⟩
    · split at h
      · cases h
      · split at h
        · cases h
        · unfold mDig at h
          split at h
          · cases h
          · cases h; exact ⟨by simp only [List.length_cons]; omega, hd⟩
  · split at h
    · split at h
      · cases h; exact ⟨by simp only [List.length_cons]; omega, hd⟩
      · split at h
        · split at h
          · cases h; exact ⟨by simp only [List.length_cons]; omega, by dsimp only; omega⟩
          · cases h
        · split at h
          · cases h; exact ⟨by simp only [List.length_cons]; omega, hd⟩
          · cases h
    · split at h
      · split at h
        · cases h; exact ⟨by simp only [List.length_tail]; omega, by dsimp only; omega⟩
        · cases h
      · split at h
        · cases h
        · split at h
          · split at h
            · cases h
            · cases h; exact ⟨by simp only [List.length_cons]; omega, hd⟩
          · cases h; exact ⟨by simp only [List.length_cons]; omega, hd⟩
/-- the reader's cells hold it -/
def rp_Q (h : rb_H) (o w : List Int32) (d g : Nat) (n : Bool) (c : Nat → Bool) : Prop := (rb_hF h 11 5 = nI o.length ∧ ∀ i, i < o.length → rb_hI h 12 i = o.reverse.getD i 0) ∧ (rb_hF h 11 6 = nI w.length ∧ ∀ i, i < w.length → rb_hI h 14 i = w.reverse.getD i 0) ∧ rb_hF h 11 7 = nI d ∧ rb_hF h 11 8 = nI g ∧ rb_hF h 11 9 = (if n = true then 1 else 0) ∧ ∀ i, i ≤ d → rb_hI h 15 i = if c i = true then 1 else 0
section
variable {h : rb_H} {o w : List Int32} {d g : Nat} {n : Bool} {c : Nat → Bool}
theorem rp_g (hQ : rp_Q h o w d g n c) (g' : Nat) : rp_Q (rb_sF h 11 8 (nI g')) o w d g' n c := by
  obtain ⟨⟨q1, q2⟩, ⟨q3, q4⟩, q5, q6, q7, q8⟩ := hQ
  refine ⟨⟨?_, fun i hi => ?_⟩, ⟨?_, fun i hi => ?_⟩, ?_, ?_, ?_, fun i hi => ?_⟩
  · simp [hI_sI, hI_sJ, hI_sF, hI_sR, hI_cp, hJ_sI, hJ_sJ, hJ_sF, hJ_sR, hJ_cp, hF_sI, hF_sJ, hF_sF, hF_sR, hF_cp, hR_sI, hR_sJ, hR_sF, hR_sR, hR_cp, q1]
  · simpa [hI_sI, hI_sJ, hI_sF, hI_sR, hI_cp, hJ_sI, hJ_sJ, hJ_sF, hJ_sR, hJ_cp, hF_sI, hF_sJ, hF_sF, hF_sR, hF_cp, hR_sI, hR_sJ, hR_sF, hR_sR, hR_cp] using q2 i hi
  · simp [hI_sI, hI_sJ, hI_sF, hI_sR, hI_cp, hJ_sI, hJ_sJ, hJ_sF, hJ_sR, hJ_cp, hF_sI, hF_sJ, hF_sF, hF_sR, hF_cp, hR_sI, hR_sJ, hR_sF, hR_sR, hR_cp, q3]
  · simpa [hI_sI, hI_sJ, hI_sF, hI_sR, hI_cp, hJ_sI, hJ_sJ, hJ_sF, hJ_sR, hJ_cp, hF_sI, hF_sJ, hF_sF, hF_sR, hF_cp, hR_sI, hR_sJ, hR_sF, hR_sR, hR_cp] using q4 i hi
  · simp [hI_sI, hI_sJ, hI_sF, hI_sR, hI_cp, hJ_sI, hJ_sJ, hJ_sF, hJ_sR, hJ_cp, hF_sI, hF_sJ, hF_sF, hF_sR, hF_cp, hR_sI, hR_sJ, hR_sF, hR_sR, hR_cp, q5]
  · simp [hI_sI, hI_sJ, hI_sF, hI_sR, hI_cp, hJ_sI, hJ_sJ, hJ_sF, hJ_sR, hJ_cp, hF_sI, hF_sJ, hF_sF, hF_sR, hF_cp, hR_sI, hR_sJ, hR_sF, hR_sR, hR_cp]
  · simp [hI_sI, hI_sJ, hI_sF, hI_sR, hI_cp, hJ_sI, hJ_sJ, hJ_sF, hJ_sR, hJ_cp, hF_sI, hF_sJ, hF_sF, hF_sR, hF_cp, hR_sI, hR_sJ, hR_sF, hR_sR, hR_cp, q7]
  · simpa [hI_sI, hI_sJ, hI_sF, hI_sR, hI_cp, hJ_sI, hJ_sJ, hJ_sF, hJ_sR, hJ_cp, hF_sI, hF_sJ, hF_sF, hF_sR, hF_cp, hR_sI, hR_sJ, hR_sF, hR_sR, hR_cp] using q8 i hi
theorem rp_n (hQ : rp_Q h o w d g n c) (n' : Bool) {x : Int32} (hx : x = if n' = true then 1 else 0) : rp_Q (rb_sF h 11 9 x) o w d g n' c := by
  obtain ⟨⟨q1, q2⟩, ⟨q3, q4⟩, q5, q6, q7, q8⟩ := hQ
  refine ⟨⟨?_, fun i hi => ?_⟩, ⟨?_, fun i hi => ?_⟩, ?_, ?_, ?_, fun i hi => ?_⟩
  · simp [hI_sI, hI_sJ, hI_sF, hI_sR, hI_cp, hJ_sI, hJ_sJ, hJ_sF, hJ_sR, hJ_cp, hF_sI, hF_sJ, hF_sF, hF_sR, hF_cp, hR_sI, hR_sJ, hR_sF, hR_sR, hR_cp, q1]
  · simpa [hI_sI, hI_sJ, hI_sF, hI_sR, hI_cp, hJ_sI, hJ_sJ, hJ_sF, hJ_sR, hJ_cp, hF_sI, hF_sJ, hF_sF, hF_sR, hF_cp, hR_sI, hR_sJ, hR_sF, hR_sR, hR_cp] using q2 i hi
  · simp [hI_sI, hI_sJ, hI_sF, hI_sR, hI_cp, hJ_sI, hJ_sJ, hJ_sF, hJ_sR, hJ_cp, hF_sI, hF_sJ, hF_sF, hF_sR, hF_cp, hR_sI, hR_sJ, hR_sF, hR_sR, hR_cp, q3]
  · simpa [hI_sI, hI_sJ, hI_sF, hI_sR, hI_cp, hJ_sI, hJ_sJ, hJ_sF, hJ_sR, hJ_cp, hF_sI, hF_sJ, hF_sF, hF_sR, hF_cp, hR_sI, hR_sJ, hR_sF, hR_sR, hR_cp] using q4 i hi
  · simp [hI_sI, hI_sJ, hI_sF, hI_sR, hI_cp, hJ_sI, hJ_sJ, hJ_sF, hJ_sR, hJ_cp, hF_sI, hF_sJ, hF_sF, hF_sR, hF_cp, hR_sI, hR_sJ, hR_sF, hR_sR, hR_cp, q5]
  · simp [hI_sI, hI_sJ, hI_sF, hI_sR, hI_cp, hJ_sI, hJ_sJ, hJ_sF, hJ_sR, hJ_cp, hF_sI, hF_sJ, hF_sF, hF_sR, hF_cp, hR_sI, hR_sJ, hR_sF, hR_sR, hR_cp, q6]
  · simp [hI_sI, hI_sJ, hI_sF, hI_sR, hI_cp, hJ_sI, hJ_sJ, hJ_sF, hJ_sR, hJ_cp, hF_sI, hF_sJ, hF_sF, hF_sR, hF_cp, hR_sI, hR_sJ, hR_sF, hR_sR, hR_cp, hx]
  · simpa [hI_sI, hI_sJ, hI_sF, hI_sR, hI_cp, hJ_sI, hJ_sJ, hJ_sF, hJ_sR, hJ_cp, hF_sI, hF_sJ, hF_sF, hF_sR, hF_cp, hR_sI, hR_sJ, hR_sF, hR_sR, hR_cp] using q8 i hi
theorem rp_emit (hQ : rp_Q h o w d g n c) (hl : o.length < 40) (v : Int32) : ∃ h', fU_emit 11 v h = some h' ∧ rp_Q h' (v :: o) w d g n c ∧ Ag [11, 12] h h' := by
  obtain ⟨⟨q1, q2⟩, ⟨q3, q4⟩, q5, q6, q7, q8⟩ := hQ
  unfold fU_emit fU_emit_0
  rw [q1, if_neg (show ¬ (40 : Int32) ≤ nI o.length from nI_ge (b := 40) hl (by omega)), if_neg (oob_n hl (by omega)), cl_n (by omega)]
  refine ⟨_, rfl, ⟨⟨?_, fun i hi => ?_⟩, ⟨?_, fun i hi => ?_⟩, ?_, ?_, ?_, fun i hi => ?_⟩, Ag_sF (by decide) (Ag_sI (by decide) (Ag_refl _ _))⟩
  · simp [hI_sI, hI_sJ, hI_sF, hI_sR, hI_cp, hJ_sI, hJ_sJ, hJ_sF, hJ_sR, hJ_cp, hF_sI, hF_sJ, hF_sF, hF_sR, hF_cp, hR_sI, hR_sJ, hR_sF, hR_sR, hR_cp, q1, nI_1]
  · simp only [hI_sI, hI_sJ, hI_sF, hI_sR, hI_cp, hJ_sI, hJ_sJ, hJ_sF, hJ_sR, hJ_cp, hF_sI, hF_sJ, hF_sF, hF_sR, hF_cp, hR_sI, hR_sJ, hR_sF, hR_sR, hR_cp, true_and]
    simp only [List.length_cons] at hi
    by_cases e : i = o.length
    · subst e
      rw [if_pos rfl, rv_at]
    · rw [if_neg e, rv_lo (by omega)]
      exact q2 i (by omega)
  · simp [hI_sI, hI_sJ, hI_sF, hI_sR, hI_cp, hJ_sI, hJ_sJ, hJ_sF, hJ_sR, hJ_cp, hF_sI, hF_sJ, hF_sF, hF_sR, hF_cp, hR_sI, hR_sJ, hR_sF, hR_sR, hR_cp, q3]
  · simpa [hI_sI, hI_sJ, hI_sF, hI_sR, hI_cp, hJ_sI, hJ_sJ, hJ_sF, hJ_sR, hJ_cp, hF_sI, hF_sJ, hF_sF, hF_sR, hF_cp, hR_sI, hR_sJ, hR_sF, hR_sR, hR_cp] using q4 i hi
  · simp [hI_sI, hI_sJ, hI_sF, hI_sR, hI_cp, hJ_sI, hJ_sJ, hJ_sF, hJ_sR, hJ_cp, hF_sI, hF_sJ, hF_sF, hF_sR, hF_cp, hR_sI, hR_sJ, hR_sF, hR_sR, hR_cp, q5]
  · simp [hI_sI, hI_sJ, hI_sF, hI_sR, hI_cp, hJ_sI, hJ_sJ, hJ_sF, hJ_sR, hJ_cp, hF_sI, hF_sJ, hF_sF, hF_sR, hF_cp, hR_sI, hR_sJ, hR_sF, hR_sR, hR_cp, q6]
  · simp [hI_sI, hI_sJ, hI_sF, hI_sR, hI_cp, hJ_sI, hJ_sJ, hJ_sF, hJ_sR, hJ_cp, hF_sI, hF_sJ, hF_sF, hF_sR, hF_cp, hR_sI, hR_sJ, hR_sF, hR_sR, hR_cp, q7]
  · simpa [hI_sI, hI_sJ, hI_sF, hI_sR, hI_cp, hJ_sI, hJ_sJ, hJ_sF, hJ_sR, hJ_cp, hF_sI, hF_sJ, hF_sF, hF_sR, hF_cp, hR_sI, hR_sJ, hR_sF, hR_sR, hR_cp] using q8 i hi
theorem rp_await (hQ : rp_Q h o w d g n c) (hl : w.length < 40) (v : Int32) : ∃ h', fU_await 11 v h = some h' ∧ rp_Q h' o (v :: w) d g n c ∧ Ag [11, 14] h h' := by
  obtain ⟨⟨q1, q2⟩, ⟨q3, q4⟩, q5, q6, q7, q8⟩ := hQ
  unfold fU_await fU_await_0
  rw [q3, if_neg (show ¬ (40 : Int32) ≤ nI w.length from nI_ge (b := 40) hl (by omega)), if_neg (oob_n hl (by omega)), cl_n (by omega)]
  refine ⟨_, rfl, ⟨⟨?_, fun i hi => ?_⟩, ⟨?_, fun i hi => ?_⟩, ?_, ?_, ?_, fun i hi => ?_⟩, Ag_sF (by decide) (Ag_sI (by decide) (Ag_refl _ _))⟩
  · simp [hI_sI, hI_sJ, hI_sF, hI_sR, hI_cp, hJ_sI, hJ_sJ, hJ_sF, hJ_sR, hJ_cp, hF_sI, hF_sJ, hF_sF, hF_sR, hF_cp, hR_sI, hR_sJ, hR_sF, hR_sR, hR_cp, q1]
  · simpa [hI_sI, hI_sJ, hI_sF, hI_sR, hI_cp, hJ_sI, hJ_sJ, hJ_sF, hJ_sR, hJ_cp, hF_sI, hF_sJ, hF_sF, hF_sR, hF_cp, hR_sI, hR_sJ, hR_sF, hR_sR, hR_cp] using q2 i hi
  · simp [hI_sI, hI_sJ, hI_sF, hI_sR, hI_cp, hJ_sI, hJ_sJ, hJ_sF, hJ_sR, hJ_cp, hF_sI, hF_sJ, hF_sF, hF_sR, hF_cp, hR_sI, hR_sJ, hR_sF, hR_sR, hR_cp, q3, nI_1]
  · simp only [hI_sI, hI_sJ, hI_sF, hI_sR, hI_cp, hJ_sI, hJ_sJ, hJ_sF, hJ_sR, hJ_cp, hF_sI, hF_sJ, hF_sF, hF_sR, hF_cp, hR_sI, hR_sJ, hR_sF, hR_sR, hR_cp, true_and]
    simp only [List.length_cons] at hi
    by_cases e : i = w.length
    · subst e
      rw [if_pos rfl, rv_at]
    · rw [if_neg e, rv_lo (by omega)]
      exact q4 i (by omega)
  · simp [hI_sI, hI_sJ, hI_sF, hI_sR, hI_cp, hJ_sI, hJ_sJ, hJ_sF, hJ_sR, hJ_cp, hF_sI, hF_sJ, hF_sF, hF_sR, hF_cp, hR_sI, hR_sJ, hR_sF, hR_sR, hR_cp, q5]
  · simp [hI_sI, hI_sJ, hI_sF, hI_sR, hI_cp, hJ_sI, hJ_sJ, hJ_sF, hJ_sR, hJ_cp, hF_sI, hF_sJ, hF_sF, hF_sR, hF_cp, hR_sI, hR_sJ, hR_sF, hR_sR, hR_cp, q6]
  · simp [hI_sI, hI_sJ, hI_sF, hI_sR, hI_cp, hJ_sI, hJ_sJ, hJ_sF, hJ_sR, hJ_cp, hF_sI, hF_sJ, hF_sF, hF_sR, hF_cp, hR_sI, hR_sJ, hR_sF, hR_sR, hR_cp, q7]
  · simpa [hI_sI, hI_sJ, hI_sF, hI_sR, hI_cp, hJ_sI, hJ_sJ, hJ_sF, hJ_sR, hJ_cp, hF_sI, hF_sJ, hF_sF, hF_sR, hF_cp, hR_sI, hR_sJ, hR_sF, hR_sR, hR_cp] using q8 i hi
theorem rp_last (a : Int32) (w : List Int32) : nI (a :: w).length - 1 = nI w.length := by
  rw [List.length_cons]
  exact nI_sub (b := 1) (by omega)
theorem rp_rel (r : Int32) : ∀ (w o : List Int32) (h : rb_H) (m : Nat), rp_Q h o w d g n c → o.length + w.length ≤ 40 → w.length < m → ∃ h', rb_iter m (fun s => fU_release_7b 11 r s.1 s.2) (nI w.length - 1, h) = some h' ∧ rp_Q h' (mRel r o w).1 (mRel r o w).2 d g n c ∧ Ag [11, 12] h h'
  | [], o, h, m, hQ, hl, hm => by
    obtain ⟨m, rfl⟩ : ∃ k, m = k + 1 := ⟨m - 1, by omega⟩
    refine ⟨h, rb_iter_inr ?_, hQ, Ag_refl _ _⟩
    unfold fU_release_7b
    exact if_pos (show (nI 0 - 1 : Int32) < 0 by decide)
  | a :: w, o, h, m, hQ, hl, hm => by
    obtain ⟨m, rfl⟩ : ∃ k, m = k + 1 := ⟨m - 1, by omega⟩
    simp only [List.length_cons] at hl hm
    rw [rp_last]
    have e : rb_hI h 14 w.length = a := by
      rw [hQ.2.1.2 w.length (by simp)]
      exact rv_at
    unfold mRel
    by_cases hr : fU_rankOf a < r
    · rw [if_pos hr]
      refine ⟨h, rb_iter_inr ?_, hQ, Ag_refl _ _⟩
      unfold fU_release_7b
      dsimp only
      rw [if_neg (nI_pos (by omega)), if_neg (oob_n (show w.length < 40 by omega) (by omega))]
      simp only [rb_lt, cl_n (show w.length < 2 ^ 31 by omega), e]
      exact if_pos hr
    · rw [if_neg hr]
      obtain ⟨h1, a1, a2, a3⟩ := rp_emit hQ (by omega) (1000 + a)
      have a4 : rp_Q (rb_sF h1 11 6 (nI w.length)) ((1000 + a) :: o) w d g n c := by
        obtain ⟨⟨q1, q2⟩, ⟨q3, q4⟩, q5, q6, q7, q8⟩ := a2
        refine ⟨⟨?_, fun i hi => ?_⟩, ⟨?_, fun i hi => ?_⟩, ?_, ?_, ?_, fun i hi => ?_⟩
        · simp [hI_sI, hI_sJ, hI_sF, hI_sR, hI_cp, hJ_sI, hJ_sJ, hJ_sF, hJ_sR, hJ_cp, hF_sI, hF_sJ, hF_sF, hF_sR, hF_cp, hR_sI, hR_sJ, hR_sF, hR_sR, hR_cp, q1]
        · simpa [hI_sI, hI_sJ, hI_sF, hI_sR, hI_cp, hJ_sI, hJ_sJ, hJ_sF, hJ_sR, hJ_cp, hF_sI, hF_sJ, hF_sF, hF_sR, hF_cp, hR_sI, hR_sJ, hR_sF, hR_sR, hR_cp] using q2 i hi
        · simp [hI_sI, hI_sJ, hI_sF, hI_sR, hI_cp, hJ_sI, hJ_sJ, hJ_sF, hJ_sR, hJ_cp, hF_sI, hF_sJ, hF_sF, hF_sR, hF_cp, hR_sI, hR_sJ, hR_sF, hR_sR, hR_cp]
        · have := q4 i (by simp only [List.length_cons]; omega)
          rw [rv_lo hi] at this
          simpa [hI_sI, hI_sJ, hI_sF, hI_sR, hI_cp, hJ_sI, hJ_sJ, hJ_sF, hJ_sR, hJ_cp, hF_sI, hF_sJ, hF_sF, hF_sR, hF_cp, hR_sI, hR_sJ, hR_sF, hR_sR, hR_cp] using this
        · simp [hI_sI, hI_sJ, hI_sF, hI_sR, hI_cp, hJ_sI, hJ_sJ, hJ_sF, hJ_sR, hJ_cp, hF_sI, hF_sJ, hF_sF, hF_sR, hF_cp, hR_sI, hR_sJ, hR_sF, hR_sR, hR_cp, q5]
        · simp [hI_sI, hI_sJ, hI_sF, hI_sR, hI_cp, hJ_sI, hJ_sJ, hJ_sF, hJ_sR, hJ_cp, hF_sI, hF_sJ, hF_sF, hF_sR, hF_cp, hR_sI, hR_sJ, hR_sF, hR_sR, hR_cp, q6]
        · simp [hI_sI, hI_sJ, hI_sF, hI_sR, hI_cp, hJ_sI, hJ_sJ, hJ_sF, hJ_sR, hJ_cp, hF_sI, hF_sJ, hF_sF, hF_sR, hF_cp, hR_sI, hR_sJ, hR_sF, hR_sR, hR_cp, q7]
        · simpa [hI_sI, hI_sJ, hI_sF, hI_sR, hI_cp, hJ_sI, hJ_sJ, hJ_sF, hJ_sR, hJ_cp, hF_sI, hF_sJ, hF_sF, hF_sR, hF_cp, hR_sI, hR_sJ, hR_sF, hR_sR, hR_cp] using q8 i hi
      obtain ⟨h2, b1, b2, b3⟩ := rp_rel r w ((1000 + a) :: o) _ m a4 (by simp only [List.length_cons]; omega) (by omega)
      refine ⟨h2, ?_, b2, Ag_trans (Ag_sF (by decide) a3) b3⟩
      rw [← b1]
      refine rb_iter_inl ?_
      unfold fU_release_7b
      dsimp only
      rw [if_neg (nI_pos (by omega)), if_neg (oob_n (show w.length < 40 by omega) (by omega))]
      simp only [rb_lt, cl_n (show w.length < 2 ^ 31 by omega), e]
      rw [if_neg hr, if_neg (oob_n (show w.length < 40 by omega) (by omega)), a1, Option.bind_some, show (nI w.length + (-1) : Int32) = nI w.length - 1 from (Int32.sub_eq_add_neg _ _).symm]
theorem rp_release (r : Int32) (hQ : rp_Q h o w d g n c) (hl : o.length + w.length ≤ 40) : ∃ h', fU_release 11 r h = some h' ∧ rp_Q h' (mRel r o w).1 (mRel r o w).2 d g n c ∧ Ag [11, 12] h h' := by
  obtain ⟨h', a1, a2, a3⟩ := rp_rel r w o h rb_fuel hQ hl (by rw [rb_fuel_eq]; omega)
  unfold fU_release fU_release_0
  rw [hQ.2.1.1, a1]
  exact ⟨h', rfl, a2, a3⟩
end
