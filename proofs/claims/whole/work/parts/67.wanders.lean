/-! the cheapest way through so many quarters -/
def mn (c : Nat → Bool) (f : Nat → Nat) : Nat → Nat
  | 0 => 1000000
  | k + 1 => if c k = true ∧ f k < mn c f k then f k else mn c f k
theorem mn_le {c : Nat → Bool} {f : Nat → Nat} : ∀ {n t : Nat}, t < n → c t = true → mn c f n ≤ f t
  | 0, _, h, _ => absurd h (Nat.not_lt_zero _)
  | n + 1, t, h, hc => by
    unfold mn
    by_cases e : t = n
    · subst e
      split
      · exact Nat.le_refl _
      · rename_i z
        exact Nat.not_lt.mp fun q => z ⟨hc, q⟩
    · have ih := mn_le (c := c) (f := f) (n := n) (t := t) (by omega) hc
      split
      · omega
      · exact ih
theorem mn_is {c : Nat → Bool} {f : Nat → Nat} : ∀ {n : Nat}, mn c f n = 1000000 ∨ ∃ t, t < n ∧ c t = true ∧ f t = mn c f n
  | 0 => Or.inl rfl
  | n + 1 => by
    unfold mn
    split
    · rename_i z
      exact Or.inr ⟨n, Nat.lt_succ_self n, z.1, rfl⟩
    · rcases mn_is (c := c) (f := f) (n := n) with h | ⟨t, h1, h2, h3⟩
      · exact Or.inl h
      · exact Or.inr ⟨t, by omega, h2, h3⟩
/-- the least rents of m days from a day on, ahead of it on a square -/
def wr (r : Nat → Nat → Nat) (c : Nat → Nat → Bool) : Nat → Nat → Nat → Nat
  | 0, _, _ => 0
  | m + 1, d, s => mn (c s) (fun t => r d t + wr r c m (d + 1) t) 25
/-- where to then -/
def wN (r : Nat → Nat → Nat) (c : Nat → Nat → Bool) (m d s : Nat) : Nat := fst1 (fun t => c s t && decide (r d t + wr r c m (d + 1) t = wr r c (m + 1) d s)) 25
def wL (r : Nat → Nat → Nat) (c : Nat → Nat → Bool) : Nat → Nat → Nat → List Int64
  | 0, _, _ => []
  | m + 1, d, s => (nI (wN r c m d s)).toInt64 :: wL r c m (d + 1) (wN r c m d s)
theorem wL_len (r : Nat → Nat → Nat) (c : Nat → Nat → Bool) : ∀ m d s, (wL r c m d s).length = m
  | 0, _, _ => rfl
  | m + 1, d, s => congrArg (· + 1) (wL_len r c m (d + 1) _)
section
variable {r : Nat → Nat → Nat} {c : Nat → Nat → Bool}
theorem wr_le (hr : ∀ d t, r d t ≤ 20) (hc : ∀ s, s < 25 → c s s = true) : ∀ m d s, s < 25 → wr r c m d s ≤ 20 * m
  | 0, _, _, _ => Nat.zero_le _
  | m + 1, d, s, hs => by
    have a := mn_le (c := c s) (f := fun t => r d t + wr r c m (d + 1) t) hs (hc s hs)
    have b := wr_le hr hc m (d + 1) s hs
    have e := hr d s
    show mn (c s) (fun t => r d t + wr r c m (d + 1) t) 25 ≤ _
    omega
theorem wN_ok (hr : ∀ d t, r d t ≤ 20) (hc : ∀ s, s < 25 → c s s = true) {m d s : Nat} (hm : m < 100) (hs : s < 25) : wN r c m d s < 25 ∧ c s (wN r c m d s) = true ∧ r d (wN r c m d s) + wr r c m (d + 1) (wN r c m d s) = wr r c (m + 1) d s := by
  have hle := wr_le hr hc (m + 1) d s hs
  have h1 : wN r c m d s < 25 := by
    rcases mn_is (c := c s) (f := fun t => r d t + wr r c m (d + 1) t) (n := 25) with z | ⟨t, t1, t2, t3⟩
    · have z : wr r c (m + 1) d s = 1000000 := z
      omega
    · have := fst1_le (fun t => c s t && decide (r d t + wr r c m (d + 1) t = wr r c (m + 1) d s)) 25
      rcases Nat.lt_or_ge (wN r c m d s) 25 with q | q
      · exact q
      · have e : fst1 (fun t => c s t && decide (r d t + wr r c m (d + 1) t = wr r c (m + 1) d s)) 25 = 25 := by unfold wN at q; omega
        have := fst1_none.mp e t t1
        have t3 : r d t + wr r c m (d + 1) t = wr r c (m + 1) d s := t3
        simp [t2, t3] at this
  have := fst1_is (p := fun t => c s t && decide (r d t + wr r c m (d + 1) t = wr r c (m + 1) d s)) h1
  simp only [Bool.and_eq_true, decide_eq_true_eq] at this
  exact ⟨h1, this.1, this.2⟩
/-- the least of the best -/
theorem wN_un {m d s f : Nat} (hf : f < 25) (hcf : c s f = true) (hmin : ∀ u, u < 25 → c s u = true → (r d f + wr r c m (d + 1) f < r d u + wr r c m (d + 1) u ∨ (r d f + wr r c m (d + 1) f = r d u + wr r c m (d + 1) u ∧ f ≤ u))) (h1 : wN r c m d s < 25 ∧ c s (wN r c m d s) = true ∧ r d (wN r c m d s) + wr r c m (d + 1) (wN r c m d s) = wr r c (m + 1) d s) : f = wN r c m d s := by
  obtain ⟨a, b, e⟩ := h1
  have l : wr r c (m + 1) d s ≤ r d f + wr r c m (d + 1) f := mn_le (c := c s) (f := fun t => r d t + wr r c m (d + 1) t) hf hcf
  have q := hmin _ a b
  have hle : f ≤ wN r c m d s := by omega
  rcases Nat.lt_or_ge f (wN r c m d s) with z | z
  · have := fst1_no (p := fun t => c s t && decide (r d t + wr r c m (d + 1) t = wr r c (m + 1) d s)) z
    have e2 : r d f + wr r c m (d + 1) f = wr r c (m + 1) d s := by omega
    simp [hcf, e2] at this
  · omega
end
theorem ra32 : ∀ q, q < 6 → rb_ra 32 q = 33 + q := by decide +kernel
theorem ra39 : ∀ q, q < 7 → rb_ra 39 q = 40 + q := by decide +kernel
theorem ra66 : ∀ q, q < 7 → rb_ra 66 q = 67 + q := by decide +kernel
/-- one can wander -/
def cdB (B : sBd) (p s t : Nat) : Bool := decide (s = t) || (frB B p t && goB B p s t)
theorem C_bestFrom {h : rb_H} {B : sBd} {p d s m : Nat} {r : Nat → Nat → Nat} (hK : WK h B p) (hr : ∀ d t, r d t ≤ 20) (hd : d < 6) (hs : s < 25) (hm : m < 7) (h1 : ∀ t, t < 25 → rb_hI h (33 + d) t = nI (r d t)) (h2 : ∀ t, t < 25 → rb_hI h (40 + (d + 1)) t = nI (wr r (cdB B p) m (d + 1) t)) : fW_bestFrom (nI d) (nI s) h = some (nI (wN r (cdB B p) m d s)) := by
  have hc : ∀ s, s < 25 → cdB B p s s = true := fun s _ => by unfold cdB; simp
  have e1 : (nI d + 1 : Int32) = nI (d + 1) := nI_1 d
  have hopen : bits (goB B p s) 25 &&& bits (frB B p) 25 = bits (fun t => goB B p s t && frB B p t) 25 := and_bits _ _ (by omega)
  generalize hcost : (fun t => r d t + wr r (cdB B p) m (d + 1) t) = cost
  have hcb : ∀ t, t < 25 → cost t ≤ 1000 := fun t ht => by
    rw [← hcost]
    have := wr_le hr hc m (d + 1) t ht
    have := hr d t
    dsimp only
    omega
  have hcs : ∀ t, t < 25 → rb_hI h (33 + d) t + rb_hI h (40 + (d + 1)) t = nI (cost t) := fun t ht => by
    rw [h1 t ht, h2 t ht, nI_add, ← hcost]
  have main : ∃ x, rb_iter rb_fuel (fun z => fW_bestFrom_19b (nI d) (nI s) (bits (fun t => goB B p s t && frB B p t) 25) z.1 z.2 h) (nI s, (24 : Int32)) = some x ∧ ∃ f, x = nI f ∧ f < 25 ∧ cdB B p s f = true ∧ ∀ u, u < 25 → cdB B p s u = true → (cost f < cost u ∨ (cost f = cost u ∧ f ≤ u)) := by
    have lp : ∃ x, rb_iter rb_fuel (fun z => fW_bestFrom_19b (nI d) (nI s) (bits (fun t => goB B p s t && frB B p t) 25) z.1 z.2 h) (nI s, (24 : Int32)) = some x ∧ ∃ f, x = nI f ∧ f < 25 ∧ cdB B p s f = true ∧ ∀ u, u < 25 → (u = s ∨ 25 ≤ u + 25) → cdB B p s u = true → (cost f < cost u ∨ (cost f = cost u ∧ f ≤ u)) := by
      refine rb_runP (fun k z => z.2 = nI (25 - k) - 1 ∧ ∃ f, z.1 = nI f ∧ f < 25 ∧ cdB B p s f = true ∧ ∀ u, u < 25 → (u = s ∨ 25 ≤ u + k) → cdB B p s u = true → (cost f < cost u ∨ (cost f = cost u ∧ f ≤ u))) _ 25 ⟨rfl, s, rfl, hs, hc s hs, fun u hu hh _ => ?_⟩ (by omega) ?_ ?_
      · have : u = s := by omega
        subst this
        exact Or.inr ⟨rfl, Nat.le_refl _⟩
      · rintro k ⟨v, w⟩ hk ⟨e2, f, e3, hf, hcf, hmin⟩
        dsimp only at e2 e3 ⊢
        subst e3
        obtain ⟨t, ht⟩ : ∃ t, 25 - k = t + 1 := ⟨24 - k, by omega⟩
        rw [ht, nI_pred] at e2
        subst e2
        have ht25 : t < 25 := by omega
        have next : nI t + (-1) = nI (25 - (k + 1)) - 1 := by
          rw [show 25 - (k + 1) = t by omega]
          exact (Int32.sub_eq_add_neg _ _).symm
        have es : nI t = nI s ↔ t = s := nI_eq (by omega) (by omega)
        have hh : fB_holds (bits (fun t => goB B p s t && frB B p t) 25) (nI t) = (goB B p s t && frB B p t) := by
          rw [holds_bt _ (by omega), bits_bt _ 25 (by omega) t (by omega)]
          simp [ht25]
        have keep : (cdB B p s t = true → (cost f < cost t ∨ (cost f = cost t ∧ f ≤ t))) → ∀ u, u < 25 → (u = s ∨ 25 ≤ u + (k + 1)) → cdB B p s u = true → (cost f < cost u ∨ (cost f = cost u ∧ f ≤ u)) := by
          intro q u hu hh hcu
          by_cases e : u = t
          · subst e; exact q hcu
          · exact hmin u hu (by omega) hcu
        have take : cdB B p s t = true → (cost t < cost f ∨ (cost t = cost f ∧ t < f)) → ∀ u, u < 25 → (u = s ∨ 25 ≤ u + (k + 1)) → cdB B p s u = true → (cost t < cost u ∨ (cost t = cost u ∧ t ≤ u)) := by
          intro _ q u hu hh hcu
          by_cases e : u = t
          · subst e; exact Or.inr ⟨rfl, Nat.le_refl _⟩
          · have := hmin u hu (by omega) hcu
            omega
        have cmp : ∀ v90 : Int32, (v90 = 0 ∧ cdB B p s t = false ∨ v90 = 1 ∧ cdB B p s t = true) → ∃ z', fW_bestFrom_44l19 (nI d) (nI s) (bits (fun t => goB B p s t && frB B p t) 25) (nI f) (nI t) v90 h = some (Sum.inl z') ∧ (z'.2 = nI (25 - (k + 1)) - 1 ∧ ∃ f, z'.1 = nI f ∧ f < 25 ∧ cdB B p s f = true ∧ ∀ u, u < 25 → (u = s ∨ 25 ≤ u + (k + 1)) → cdB B p s u = true → (cost f < cost u ∨ (cost f = cost u ∧ f ≤ u))) := by
          intro v90 hv
          have bt := hcb t ht25
          have bf := hcb f hf
          have el : nI (cost t) < nI (cost f) ↔ cost t < cost f := nI_ltI (by omega) (by omega)
          have ee : nI (cost t) = nI (cost f) ↔ cost t = cost f := nI_eq (by omega) (by omega)
          have ef : nI f ≤ nI t ↔ f ≤ t := nI_leI (by omega) (by omega)
          unfold fW_bestFrom_44l19 fW_bestFrom_118l19 fW_bestFrom_122l19
          simp only [e1, if_neg (oob_n hd (by omega)), if_neg (oob_n (show d + 1 < 7 by omega) (by omega)), if_neg (oob_n ht25 (by omega)), if_neg (oob_n hf (by omega)), cl_n (show d < 2 ^ 31 by omega), cl_n (show d + 1 < 2 ^ 31 by omega), cl_n (show t < 2 ^ 31 by omega), cl_n (show f < 2 ^ 31 by omega), ra32 _ hd, ra39 _ (show d + 1 < 7 by omega), hcs t ht25, hcs f hf, el, ee, ef]
          rcases hv with ⟨hv, hct⟩ | ⟨hv, hct⟩
          · rw [if_pos hv]
            exact ⟨_, rfl, next, f, rfl, hf, hcf, keep (fun z => by rw [hct] at z; cases z)⟩
          · rw [if_neg (by rw [hv]; decide)]
            by_cases q1 : cost t < cost f
            · rw [if_pos q1]
              exact ⟨_, rfl, next, t, rfl, ht25, hct, take hct (Or.inl q1)⟩
            · rw [if_neg q1]
              by_cases q2 : cost t = cost f
              · rw [if_pos q2]
                by_cases q3 : f ≤ t
                · rw [if_pos q3]
                  exact ⟨_, rfl, next, f, rfl, hf, hcf, keep (fun _ => Or.inr ⟨q2.symm, q3⟩)⟩
                · rw [if_neg q3]
                  exact ⟨_, rfl, next, t, rfl, ht25, hct, take hct (Or.inr ⟨q2, by omega⟩)⟩
              · rw [if_neg q2]
                exact ⟨_, rfl, next, f, rfl, hf, hcf, keep (fun _ => Or.inl (by omega))⟩
        unfold fW_bestFrom_19b fW_bestFrom_39l19
        rw [if_neg (nI_pos (by omega)), hh]
        by_cases c1 : t = s
        · rw [if_pos (es.mpr c1)]
          exact cmp 1 (Or.inr ⟨rfl, by unfold cdB; simp [c1]⟩)
        · rw [if_neg (fun z => c1 (es.mp z))]
          have hst : ¬ s = t := fun z => c1 z.symm
          cases c2 : (goB B p s t && frB B p t)
          · rw [if_neg (by decide)]
            exact cmp 0 (Or.inl ⟨rfl, by unfold cdB; rw [Bool.and_comm, c2]; simp [hst]⟩)
          · rw [if_pos rfl]
            exact cmp 1 (Or.inr ⟨rfl, by unfold cdB; rw [Bool.and_comm, c2]; simp⟩)
      · rintro ⟨v, w⟩ ⟨e2, f, e3, hf, hcf, hmin⟩
        dsimp only at e2 e3 ⊢
        subst e2
        unfold fW_bestFrom_19b
        rw [if_pos (by decide)]
        exact ⟨_, rfl, f, e3, hf, hcf, fun u hu hh hcu => hmin u hu (Or.inr (by omega)) hcu⟩
    obtain ⟨x, m1, f, m2, m3, m4, m5⟩ := lp
    exact ⟨x, m1, f, m2, m3, m4, fun u hu hcu => m5 u hu (Or.inr (by omega)) hcu⟩
  obtain ⟨x, m1, f, m2, m3, m4, m5⟩ := main
  have ok := wN_ok (r := r) (c := cdB B p) hr hc (m := m) (d := d) (by omega) hs
  have : f = wN r (cdB B p) m d s := wN_un m3 m4 (fun u hu hcu => by have := m5 u hu hcu; rw [← hcost] at this; exact this) ok
  unfold fW_bestFrom fW_bestFrom_0
  rw [if_neg (oob_n hs (by omega)), cl_n (by omega), hK.2.2 s hs, hK.2.1, hopen, m1, m2, this]
  rfl
