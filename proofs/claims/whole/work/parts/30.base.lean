/-! reading and writing the numbers; loops that count -/
theorem hI_sI (h : rb_H) (a i : Nat) (v : Int32) (b j : Nat) : rb_hI (rb_sI h a i v) b j = if b = a ∧ j = i then v else rb_hI h b j := by
  show (if b = a then (if j = i then v else h.1 b j) else h.1 b j) = _
  by_cases h1 : b = a <;> by_cases h2 : j = i <;> simp [h1, h2, rb_hI]
theorem hI_sJ (h : rb_H) (a i : Nat) (v : Int64) (b j : Nat) : rb_hI (rb_sJ h a i v) b j = rb_hI h b j := rfl
theorem hI_sF (h : rb_H) (a k : Nat) (v : Int32) (b j : Nat) : rb_hI (rb_sF h a k v) b j = rb_hI h b j := rfl
theorem hI_sR (h : rb_H) (n v : Nat) (b j : Nat) : rb_hI (rb_sR h n v) b j = rb_hI h b j := rfl
theorem hI_cp (h : rb_H) (a b sp dp n : Nat) (x j : Nat) : rb_hI (rb_cp h a b sp dp n) x j = if x = b ∧ dp ≤ j ∧ j < dp + n then rb_hI h a (sp + (j - dp)) else rb_hI h x j := by
  show (if x = b then va_cpy (h.1 a) (h.1 b) sp dp n j else h.1 x j) = _
  by_cases h1 : x = b
  · subst h1
    by_cases h2 : dp ≤ j ∧ j < dp + n <;> simp [h2, va_cpy, rb_hI]
  · simp [h1, rb_hI]
theorem hJ_sI (h : rb_H) (a i : Nat) (v : Int32) (b j : Nat) : rb_hJ (rb_sI h a i v) b j = rb_hJ h b j := rfl
theorem hJ_sJ (h : rb_H) (a i : Nat) (v : Int64) (b j : Nat) : rb_hJ (rb_sJ h a i v) b j = if b = a ∧ j = i then v else rb_hJ h b j := by
  show (if b = a then (if j = i then v else h.2.1 b j) else h.2.1 b j) = _
  by_cases h1 : b = a <;> by_cases h2 : j = i <;> simp [h1, h2, rb_hJ]
theorem hJ_sF (h : rb_H) (a k : Nat) (v : Int32) (b j : Nat) : rb_hJ (rb_sF h a k v) b j = rb_hJ h b j := rfl
theorem hJ_sR (h : rb_H) (n v : Nat) (b j : Nat) : rb_hJ (rb_sR h n v) b j = rb_hJ h b j := rfl
theorem hJ_cp (h : rb_H) (a b sp dp n : Nat) (x j : Nat) : rb_hJ (rb_cp h a b sp dp n) x j = rb_hJ h x j := rfl
theorem hF_sI (h : rb_H) (a i : Nat) (v : Int32) (b j : Nat) : rb_hF (rb_sI h a i v) b j = rb_hF h b j := rfl
theorem hF_sJ (h : rb_H) (a i : Nat) (v : Int64) (b j : Nat) : rb_hF (rb_sJ h a i v) b j = rb_hF h b j := rfl
theorem hF_sF (h : rb_H) (a k : Nat) (v : Int32) (b j : Nat) : rb_hF (rb_sF h a k v) b j = if b = a ∧ j = k then v else rb_hF h b j := by
  show (if b = a then (if j = k then v else h.2.2.1 b j) else h.2.2.1 b j) = _
  by_cases h1 : b = a <;> by_cases h2 : j = k <;> simp [h1, h2, rb_hF]
theorem hF_sR (h : rb_H) (n v : Nat) (b j : Nat) : rb_hF (rb_sR h n v) b j = rb_hF h b j := rfl
theorem hF_cp (h : rb_H) (a b sp dp n : Nat) (x j : Nat) : rb_hF (rb_cp h a b sp dp n) x j = rb_hF h x j := rfl
theorem hR_sI (h : rb_H) (a i : Nat) (v : Int32) (n : Nat) : rb_hR (rb_sI h a i v) n = rb_hR h n := rfl
theorem hR_sJ (h : rb_H) (a i : Nat) (v : Int64) (n : Nat) : rb_hR (rb_sJ h a i v) n = rb_hR h n := rfl
theorem hR_sF (h : rb_H) (a k : Nat) (v : Int32) (n : Nat) : rb_hR (rb_sF h a k v) n = rb_hR h n := rfl
theorem hR_sR (h : rb_H) (n v : Nat) (m : Nat) : rb_hR (rb_sR h n v) m = if m = n then v else rb_hR h m := rfl
theorem hR_cp (h : rb_H) (a b sp dp n : Nat) (m : Nat) : rb_hR (rb_cp h a b sp dp n) m = rb_hR h m := rfl
/-! loops -/
section IT
variable {S Y : Type} {f : S → Option (S ⊕ Y)}
theorem rb_iter_inl {n : Nat} {s s' : S} (h : f s = some (.inl s')) : rb_iter (n + 1) f s = rb_iter n f s' := by
  show (match f s with | none => none | some (.inl s') => rb_iter n f s' | some (.inr x) => some x) = _
  rw [h]
theorem rb_iter_inr {n : Nat} {s : S} {x : Y} (h : f s = some (.inr x)) : rb_iter (n + 1) f s = some x := by
  show (match f s with | none => none | some (.inl s') => rb_iter n f s' | some (.inr x) => some x) = _
  rw [h]
theorem rb_run_from (g : Nat → S) {x : Y} : ∀ (n i m : Nat), (∀ k, i ≤ k → k < i + n → f (g k) = some (.inl (g (k + 1)))) → f (g (i + n)) = some (.inr x) → rb_iter (m + n + 1) f (g i) = some x
  | 0, i, m, _, he => rb_iter_inr he
  | n + 1, i, m, hs, he => by
    rw [show m + (n + 1) + 1 = (m + n + 1) + 1 from rfl, rb_iter_inl (hs i (Nat.le_refl _) (by omega))]
    exact rb_run_from g n (i + 1) m (fun k h1 h2 => hs k (by omega) (by omega)) (by rw [show i + 1 + n = i + (n + 1) by omega]; exact he)
/-- a loop that goes round n times by g, and then ends with x -/
theorem rb_run (g : Nat → S) (n : Nat) {x : Y} (hn : n < 4294967296) (hs : ∀ k, k < n → f (g k) = some (.inl (g (k + 1)))) (he : f (g n) = some (.inr x)) : rb_iter rb_fuel f (g 0) = some x := by
  have := rb_run_from (f := f) g n 0 (4294967296 - n - 1) (fun k _ h2 => hs k (by omega)) (by rw [Nat.zero_add]; exact he)
  rw [rb_fuel_eq, show (4294967296 : Nat) = 4294967296 - n - 1 + n + 1 by omega]
  exact this
/-- the same, from a start that is g 0 -/
theorem rb_run' (g : Nat → S) (n : Nat) {x : Y} {s : S} (h0 : s = g 0) (hn : n < 4294967296) (hs : ∀ k, k < n → f (g k) = some (.inl (g (k + 1)))) (he : f (g n) = some (.inr x)) : rb_iter rb_fuel f s = some x := by
  rw [h0]
  exact rb_run g n hn hs he
/-- the same, and what follows -/
theorem rb_runB {Z : Type} {K : Y → Option Z} {r : Option Z} (g : Nat → S) (n : Nat) (x : Y) {s : S} (h0 : s = g 0) (hn : n < 4294967296) (hs : ∀ k, k < n → f (g k) = some (.inl (g (k + 1)))) (he : f (g n) = some (.inr x)) (hk : K x = r) : (rb_iter rb_fuel f s).bind K = r := by
  rw [rb_run' g n h0 hn hs he]
  exact hk
/-- a loop with an invariant and a measure: it ends, and so -/
theorem rb_meas (P : S → Prop) (E : Y → Prop) (μ : S → Nat) (step : ∀ s, P s → (∃ s', f s = some (.inl s') ∧ P s' ∧ μ s' < μ s) ∨ ∃ x, f s = some (.inr x) ∧ E x) : ∀ (n : Nat) (s : S), P s → μ s < n → ∃ x, rb_iter n f s = some x ∧ E x
  | 0, s, _, h => absurd h (Nat.not_lt_zero _)
  | n + 1, s, hP, h => by
    rcases step s hP with ⟨s', h1, h2, h3⟩ | ⟨x, h1, h2⟩
    · rw [rb_iter_inl h1]
      exact rb_meas P E μ step n s' h2 (by omega)
    · exact ⟨x, rb_iter_inr h1, h2⟩
theorem rb_loop (P : S → Prop) (E : Y → Prop) (μ : S → Nat) {s : S} (hP : P s) (hμ : μ s < 4294967296) (step : ∀ s, P s → (∃ s', f s = some (.inl s') ∧ P s' ∧ μ s' < μ s) ∨ ∃ x, f s = some (.inr x) ∧ E x) : ∃ x, rb_iter rb_fuel f s = some x ∧ E x := by
  rw [rb_fuel_eq]
  exact rb_meas P E μ step _ s hP hμ
end IT
/-! small numbers as ints -/
theorem oob_n {i n : Nat} (h : i < n) (hi : i < 2 ^ 31) : ¬ rb_oob (nI i) n := fun z => z.elim (nI_pos hi) (fun z => by rw [nI_clamp hi] at z; omega)
theorem cl_n {n : Nat} (h : n < 2 ^ 31) : (nI n).toNatClampNeg = n := nI_clamp h
