/-! the best MOVE -/
section
variable {S Y : Type} {f : S → Option (S ⊕ Y)}
theorem rb_runE_from (P : Nat → S → Prop) (E : Y → Prop) (n : Nat) (step : ∀ k s, k < n → P k s → (∃ s', f s = some (.inl s') ∧ P (k + 1) s') ∨ ∃ x, f s = some (.inr x) ∧ E x) (stop : ∀ s, P n s → ∃ x, f s = some (.inr x) ∧ E x) : ∀ (d k : Nat) (s : S) (m : Nat), d + k = n → P k s → ∃ x, rb_iter (m + d + 1) f s = some x ∧ E x
  | 0, k, s, m, e, hP => by
    obtain ⟨x, h1, h2⟩ := stop s (by rw [← e, Nat.zero_add]; exact hP)
    exact ⟨x, rb_iter_inr h1, h2⟩
  | d + 1, k, s, m, e, hP => by
    rcases step k s (by omega) hP with ⟨s', h1, h2⟩ | ⟨x, h1, h2⟩
    · obtain ⟨x, h3, h4⟩ := rb_runE_from P E n step stop d (k + 1) s' m (by omega) h2
      exact ⟨x, by rw [show m + (d + 1) + 1 = (m + d + 1) + 1 from rfl, rb_iter_inl h1]; exact h3, h4⟩
    · exact ⟨x, rb_iter_inr h1, h2⟩
/-- a loop that goes round n times at most, with what holds at each -/
theorem rb_runE (P : Nat → S → Prop) (E : Y → Prop) (n : Nat) {s : S} (h0 : P 0 s) (hn : n < 4294967296) (step : ∀ k s, k < n → P k s → (∃ s', f s = some (.inl s') ∧ P (k + 1) s') ∨ ∃ x, f s = some (.inr x) ∧ E x) (stop : ∀ s, P n s → ∃ x, f s = some (.inr x) ∧ E x) : ∃ x, rb_iter rb_fuel f s = some x ∧ E x := by
  obtain ⟨x, h1, h2⟩ := rb_runE_from P E n step stop n 0 s (4294967296 - n - 1) (by omega) h0
  refine ⟨x, ?_, h2⟩
  rw [rb_fuel_eq, show (4294967296 : Nat) = 4294967296 - n - 1 + n + 1 by omega]
  exact h1
end
/-- the first that is most -/
def bO (c : Nat → Bool) (v : Nat → Int) : Nat → Option (Int × Nat)
  | 0 => none
  | k + 1 => if c k = true then (match bO c v k with
    | none => some (v k, k)
    | some q => if q.1 < v k then some (v k, k) else some q) else bO c v k
def bV (o : Option (Int × Nat)) : Int := match o with
  | none => -10000
  | some q => q.1
def mcN (q : Nat) : Nat := 100 * (q / 25) + q % 25
def bI3 (o : Option (Int × Nat)) : Int32 := match o with
  | none => -1
  | some q => nI (mcN q.2)
section
variable {c : Nat → Bool} {v : Nat → Int}
theorem bO_x {k : Nat} (h : c k = false) : bO c v (k + 1) = bO c v k := by
  show (if c k = true then _ else _) = _
  rw [if_neg (by rw [h]; decide)]
theorem bO_y {k : Nat} (h : c k = true) (hv : -5000 < v k) (hl : bV (bO c v k) < v k) : bO c v (k + 1) = some (v k, k) := by
  show (if c k = true then _ else _) = _
  rw [if_pos h]
  cases e : bO c v k with
  | none => rfl
  | some q =>
    rw [e] at hl
    exact if_pos (show q.1 < v k from hl)
theorem bO_n {k : Nat} (h : c k = true) (hv : -5000 < v k) (hl : ¬ bV (bO c v k) < v k) : bO c v (k + 1) = bO c v k := by
  show (if c k = true then _ else _) = _
  rw [if_pos h]
  cases e : bO c v k with
  | none => rw [e] at hl; exact absurd (show (-10000 : Int) < v k by omega) hl
  | some q =>
    rw [e] at hl
    exact if_neg (show ¬ q.1 < v k from hl)
theorem bO_is : ∀ {k : Nat} {q : Int × Nat}, bO c v k = some q → q.2 < k ∧ c q.2 = true ∧ q.1 = v q.2
  | 0, q, h => by cases h
  | k + 1, q, h => by
    by_cases hc : c k = true
    · have h' : (if c k = true then (match bO c v k with
        | none => some (v k, k)
        | some q => if q.1 < v k then some (v k, k) else some q) else bO c v k) = some q := h
      rw [if_pos hc] at h'
      cases e : bO c v k with
      | none =>
        rw [e] at h'
        have : (v k, k) = q := Option.some.inj h'
        subst this
        exact ⟨Nat.lt_succ_self k, hc, rfl⟩
      | some r =>
        rw [e] at h'
        have h2 : (if r.1 < v k then some (v k, k) else some r) = some q := h'
        split at h2
        · have : (v k, k) = q := Option.some.inj h2
          subst this
          exact ⟨Nat.lt_succ_self k, hc, rfl⟩
        · have : r = q := Option.some.inj h2
          subst this
          obtain ⟨a, b, d⟩ := bO_is e
          exact ⟨by omega, b, d⟩
    · have : bO c v (k + 1) = bO c v k := bO_x (Bool.eq_false_iff.mpr hc)
      rw [this] at h
      obtain ⟨a, b, d⟩ := bO_is h
      exact ⟨by omega, b, d⟩
theorem bV_up (hv : ∀ k, c k = true → -5000 < v k) (k : Nat) : bV (bO c v k) ≤ bV (bO c v (k + 1)) := by
  by_cases hc : c k = true
  · by_cases hl : bV (bO c v k) < v k
    · rw [bO_y hc (hv k hc) hl]
      exact Int.le_of_lt hl
    · rw [bO_n hc (hv k hc) hl]
      exact Int.le_refl _
  · rw [bO_x (Bool.eq_false_iff.mpr hc)]
    exact Int.le_refl _
theorem bV_mono (hv : ∀ k, c k = true → -5000 < v k) (k : Nat) : ∀ d, bV (bO c v k) ≤ bV (bO c v (k + d))
  | 0 => Int.le_refl _
  | d + 1 => Int.le_trans (bV_mono hv k d) (bV_up hv (k + d))
theorem bV_bound (hv : ∀ k, c k = true → -792 ≤ v k ∧ v k ≤ 792) (k : Nat) : bV (bO c v k) = -10000 ∨ (-792 ≤ bV (bO c v k) ∧ bV (bO c v k) ≤ 792) := by
  cases e : bO c v k with
  | none => exact Or.inl rfl
  | some q =>
    obtain ⟨a, b, d⟩ := bO_is e
    have := hv q.2 b
    rw [← d] at this
    exact Or.inr this
end
/-- looking n MOVES ahead: the worth for the first SIDE, and the MOVES -/
def cQ (B : sBd) (q : Nat) : Bool := decide (q < 25 * bN B) && canM B (q / 25) (q % 25)
def nxB (B : sBd) (q : Nat) : sBd := mvB B (q / 25) (q % 25)
def ev (ρ : sRu) : Nat → sBd → Int × List Nat
  | 0 => fun B => (woM ρ B, [])
  | n + 1 => fun B => match bO (cQ B) (fun q => sg (bT B) (ev ρ n (nxB B q)).1) (25 * bN B) with
    | none => (woM ρ B, [])
    | some r => (sg (bT B) r.1, mcN r.2 :: (ev ρ n (nxB B r.2)).2)
def vQ (ρ : sRu) (n : Nat) (B : sBd) (q : Nat) : Int := sg (bT B) (ev ρ n (nxB B q)).1
theorem cQ_is {B : sBd} {q : Nat} (h : cQ B q = true) : q / 25 < bN B ∧ q % 25 < 25 ∧ canM B (q / 25) (q % 25) = true := by
  unfold cQ at h
  rw [Bool.and_eq_true, decide_eq_true_eq] at h
  exact ⟨by omega, Nat.mod_lt _ (by decide), h.2⟩
theorem cQ_at {B : sBd} {p s : Nat} (hp : p < bN B) (hs : s < 25) : cQ B (25 * p + s) = canM B p s := by
  unfold cQ
  rw [show (25 * p + s) / 25 = p by omega, show (25 * p + s) % 25 = s by omega, decide_eq_true (show 25 * p + s < 25 * bN B by omega), Bool.true_and]
theorem nxB_at {B : sBd} {p s : Nat} (hs : s < 25) : nxB B (25 * p + s) = mvB B p s := by
  unfold nxB
  rw [show (25 * p + s) / 25 = p by omega, show (25 * p + s) % 25 = s by omega]
theorem mcN_at {p s : Nat} (hs : s < 25) : mcN (25 * p + s) = 100 * p + s := by
  unfold mcN
  omega
theorem nxB_WF {B : sBd} (hW : WF B) {q : Nat} (h : cQ B q = true) : WF (nxB B q) := by
  obtain ⟨h1, h2, h3⟩ := cQ_is h
  exact mvB_WF hW h1 h2 (canM_ne hW h1 h2 h3)
theorem sg_sg (t : Nat) (z : Int) : sg t (sg t z) = z := by
  unfold sg
  by_cases e : t = 0
  · rw [if_pos e, if_pos e]
  · rw [if_neg e, if_neg e]; omega
theorem sg_bound {t : Nat} {z : Int} (h : -792 ≤ z ∧ z ≤ 792) : -792 ≤ sg t z ∧ sg t z ≤ 792 := by
  unfold sg
  split <;> omega
theorem ev_bound {ρ : sRu} : ∀ (n : Nat) (B : sBd), WF B → -792 ≤ (ev ρ n B).1 ∧ (ev ρ n B).1 ≤ 792
  | 0, B, hW => woM_bound hW
  | n + 1, B, hW => by
    have hd : ev ρ (n + 1) B = match bO (cQ B) (vQ ρ n B) (25 * bN B) with
      | none => (woM ρ B, [])
      | some r => (sg (bT B) r.1, mcN r.2 :: (ev ρ n (nxB B r.2)).2) := rfl
    rw [hd]
    cases e : bO (cQ B) (vQ ρ n B) (25 * bN B) with
    | none => exact woM_bound hW
    | some r =>
      obtain ⟨a, b, d⟩ := bO_is e
      refine sg_bound (t := bT B) ?_
      rw [d]
      exact sg_bound (ev_bound n _ (nxB_WF hW b))
theorem vQ_bound {ρ : sRu} {n : Nat} {B : sBd} (hW : WF B) (q : Nat) (h : cQ B q = true) : -792 ≤ vQ ρ n B q ∧ vQ ρ n B q ≤ 792 := sg_bound (ev_bound n _ (nxB_WF hW h))
theorem ev_none {ρ : sRu} {n : Nat} {B : sBd} (e : bO (cQ B) (vQ ρ n B) (25 * bN B) = none) : ev ρ (n + 1) B = (woM ρ B, []) := by
  have hd : ev ρ (n + 1) B = match bO (cQ B) (vQ ρ n B) (25 * bN B) with
    | none => (woM ρ B, [])
    | some r => (sg (bT B) r.1, mcN r.2 :: (ev ρ n (nxB B r.2)).2) := rfl
  rw [hd, e]
theorem ev_some {ρ : sRu} {n : Nat} {B : sBd} {r : Int × Nat} (e : bO (cQ B) (vQ ρ n B) (25 * bN B) = some r) : ev ρ (n + 1) B = (sg (bT B) r.1, mcN r.2 :: (ev ρ n (nxB B r.2)).2) := by
  have hd : ev ρ (n + 1) B = match bO (cQ B) (vQ ρ n B) (25 * bN B) with
    | none => (woM ρ B, [])
    | some r => (sg (bT B) r.1, mcN r.2 :: (ev ρ n (nxB B r.2)).2) := rfl
  rw [hd, e]
