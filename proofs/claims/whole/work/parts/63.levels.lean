/-! squares by how many moves the goal is away; at most sixteen -/
/-- what a square leads to -/
def toB (go : Nat → Nat → Bool) (a : Nat → Bool) (s : Nat) : Bool := (List.range 25).any fun t => go s t && a t
theorem toB_iff {go : Nat → Nat → Bool} {a : Nat → Bool} {s : Nat} : toB go a s = true ↔ ∃ t, t < 25 ∧ go s t = true ∧ a t = true := by
  unfold toB
  simp only [List.any_eq_true, List.mem_range, Bool.and_eq_true]
/-- the squares n moves away, and those up to n -/
def lvS (go : Nat → Nat → Bool) (fr : Nat → Bool) (g : Nat) : Nat → (Nat → Bool) × (Nat → Bool)
  | 0 => (fun s => decide (s = g), fun s => decide (s = g))
  | n + 1 => (fun s => toB go (lvS go fr g n).1 s && (fr s && !(lvS go fr g n).2 s), fun s => (lvS go fr g n).2 s || (toB go (lvS go fr g n).1 s && (fr s && !(lvS go fr g n).2 s)))
def Lv (go : Nat → Nat → Bool) (fr : Nat → Bool) (g n : Nat) : Nat → Bool := (lvS go fr g n).1
def Sn (go : Nat → Nat → Bool) (fr : Nat → Bool) (g n : Nat) : Nat → Bool := (lvS go fr g n).2
section
variable {go : Nat → Nat → Bool} {fr : Nat → Bool} {g : Nat}
theorem Lv_0 {s : Nat} : Lv go fr g 0 s = decide (s = g) := rfl
theorem Lv_s {n s : Nat} : Lv go fr g (n + 1) s = (toB go (Lv go fr g n) s && (fr s && !Sn go fr g n s)) := rfl
theorem Sn_s {n s : Nat} : Sn go fr g (n + 1) s = (Sn go fr g n s || Lv go fr g (n + 1) s) := rfl
theorem Sn_iff : ∀ {n s : Nat}, Sn go fr g n s = true ↔ ∃ j, j ≤ n ∧ Lv go fr g j s = true
  | 0, s => ⟨fun h => ⟨0, Nat.le_refl _, h⟩, fun ⟨j, h1, h2⟩ => by
    have : j = 0 := by omega
    subst this; exact h2⟩
  | n + 1, s => by
    rw [Sn_s, Bool.or_eq_true, Sn_iff]
    constructor
    · rintro (⟨j, h1, h2⟩ | h)
      · exact ⟨j, by omega, h2⟩
      · exact ⟨n + 1, Nat.le_refl _, h⟩
    · rintro ⟨j, h1, h2⟩
      by_cases e : j = n + 1
      · exact Or.inr (e ▸ h2)
      · exact Or.inl ⟨j, by omega, h2⟩
theorem Lv_one {s : Nat} : ∀ {i j : Nat}, Lv go fr g i s = true → Lv go fr g j s = true → i = j := by
  have key : ∀ i j, i < j → Lv go fr g i s = true → Lv go fr g j s = true → False := by
    intro i j hij h1 h2
    obtain ⟨k, rfl⟩ : ∃ k, j = k + 1 := ⟨j - 1, by omega⟩
    rw [Lv_s] at h2
    simp only [Bool.and_eq_true, Bool.not_eq_true'] at h2
    have := (Sn_iff (go := go) (fr := fr) (g := g) (n := k) (s := s)).mpr ⟨i, by omega, h1⟩
    rw [this] at h2
    exact absurd h2.2.2 (by decide)
  intro i j h1 h2
  rcases Nat.lt_trichotomy i j with h | h | h
  · exact absurd (key i j h h1 h2) id
  · exact h
  · exact absurd (key j i h h2 h1) id
/-- squares that count: the goal, and those on which nobody else stands -/
def GG (fr : Nat → Bool) (g s : Nat) : Prop := s = g ∨ fr s = true
theorem Lv_G {n s : Nat} (h : Lv go fr g n s = true) : GG fr g s := by
  cases n with
  | zero => exact Or.inl (of_decide_eq_true h)
  | succ n =>
    rw [Lv_s] at h
    simp only [Bool.and_eq_true] at h
    exact Or.inr h.2.1
theorem Lv_next {j s t : Nat} (hs : GG fr g s) (ht : t < 25) (hl : Lv go fr g j t = true) (hgo : go s t = true) : ∃ i, i ≤ j + 1 ∧ Lv go fr g i s = true := by
  by_cases c : Sn go fr g j s = true
  · obtain ⟨i, h1, h2⟩ := Sn_iff.mp c
    exact ⟨i, by omega, h2⟩
  · rcases hs with rfl | hs
    · exact ⟨0, by omega, by rw [Lv_0]; simp⟩
    · refine ⟨j + 1, Nat.le_refl _, ?_⟩
      rw [Lv_s, toB_iff.mpr ⟨t, ht, hgo, hl⟩, hs]
      cases h : Sn go fr g j s
      · rfl
      · exact absurd h c
/-- a way from a square of a level down to the goal -/
theorem Lv_path : ∀ {n s : Nat}, s < 25 → Lv go fr g n s = true → ∃ f : Nat → Nat, f 0 = s ∧ (∀ i, i ≤ n → f i < 25 ∧ Lv go fr g (n - i) (f i) = true) ∧ ∀ i, i < n → go (f i) (f (i + 1)) = true
  | 0, s, hs, h => ⟨fun _ => s, rfl, fun i hi => ⟨hs, by rw [Nat.zero_sub]; exact h⟩, fun i hi => absurd hi (Nat.not_lt_zero _)⟩
  | n + 1, s, hs, h => by
    have h' := h
    rw [Lv_s] at h'
    simp only [Bool.and_eq_true] at h'
    obtain ⟨t, h1, h2, h3⟩ := toB_iff.mp h'.1
    obtain ⟨f, f0, f1, f2⟩ := Lv_path h1 h3
    refine ⟨fun i => if i = 0 then s else f (i - 1), if_pos rfl, fun i hi => ?_, fun i hi => ?_⟩
    · by_cases e : i = 0
      · subst e
        dsimp only
        rw [if_pos rfl]
        exact ⟨hs, h⟩
      · simp only [if_neg e]
        have := f1 (i - 1) (by omega)
        rw [show n + 1 - i = n - (i - 1) by omega]
        exact this
    · by_cases e : i = 0
      · subst e
        simp only [if_true]
        show go s (if 0 + 1 = 0 then s else f (0 + 1 - 1)) = true
        rw [if_neg (by decide), Nat.add_sub_cancel, f0]
        exact h2
      · simp only [if_neg e]
        rw [if_neg (by omega)]
        have := f2 (i - 1) (by omega)
        rw [show i - 1 + 1 = i by omega] at this
        rw [show i + 1 - 1 = i by omega]
        exact this
/-- such a way has no short cut -/
theorem Lv_short {n : Nat} {f : Nat → Nat} (h1 : ∀ i, i ≤ n → f i < 25 ∧ Lv go fr g (n - i) (f i) = true) {i k : Nat} (hik : i < k) (hk : k ≤ n) (hgo : go (f i) (f k) = true) : k = i + 1 := by
  have a := h1 i (by omega)
  have b := h1 k hk
  obtain ⟨j, j1, j2⟩ := Lv_next (Lv_G a.2) b.1 b.2 hgo
  have := Lv_one a.2 j2
  omega
theorem Lv_inj {n : Nat} {f : Nat → Nat} (h1 : ∀ i, i ≤ n → f i < 25 ∧ Lv go fr g (n - i) (f i) = true) {i k : Nat} (hik : i < k) (hk : k ≤ n) : f i ≠ f k := by
  intro e
  have a := (h1 i (by omega)).2
  have b := (h1 k hk).2
  rw [e] at a
  have := Lv_one a b
  omega
end
/-- nine groups, at most two of a way in each, one in the last -/
theorem nine {n : Nat} {f : Nat → Nat} {q : Nat → Nat} (hf : ∀ i, i ≤ n → f i < 25) (hq : ∀ s, s < 25 → q s ≤ 8) (hq8 : ∀ s t, s < 25 → t < 25 → q s = 8 → q t = 8 → s = t) (hinj : ∀ i k, i < k → k ≤ n → f i ≠ f k) (h3 : ∀ i j k, i < j → j < k → k ≤ n → q (f i) = q (f j) → q (f j) = q (f k) → False) : n ≤ 16 := by
  refine Nat.not_lt.mp fun hn => ?_
  have hw : ∃ w : Nat → Nat, (∀ i, i < 18 → w i < 17) ∧ ∀ i j, i < j → j < 18 → w i ≠ w j := by
    refine ⟨fun i => 2 * q (f i) + (if (List.range i).any (fun j => decide (q (f j) = q (f i))) = true ∧ q (f i) < 8 then 1 else 0), fun i hi => ?_, fun i j hij hj e => ?_⟩
    · have := hq (f i) (hf i (by omega))
      dsimp only
      split <;> omega
    · have a := hq (f i) (hf i (by omega))
      have b := hq (f j) (hf j (by omega))
      have same : q (f i) = q (f j) := by
        dsimp only at e
        split at e <;> split at e <;> omega
      by_cases c8 : q (f i) < 8
      · have hj1 : (List.range j).any (fun k => decide (q (f k) = q (f j))) = true := by
          simp only [List.any_eq_true, List.mem_range, decide_eq_true_eq]
          exact ⟨i, hij, same⟩
        dsimp only at e
        rw [if_pos (⟨hj1, by omega⟩ : _ ∧ q (f j) < 8)] at e
        by_cases c : (List.range i).any (fun k => decide (q (f k) = q (f i))) = true
        · simp only [List.any_eq_true, List.mem_range, decide_eq_true_eq] at c
          obtain ⟨k, k1, k2⟩ := c
          exact h3 k i j k1 hij (by omega) k2 same
        · rw [if_neg (fun z => c z.1)] at e
          omega
      · exact hinj i j hij (by omega) (hq8 _ _ (hf i (by omega)) (hf j (by omega)) (by omega) (by omega))
  obtain ⟨w, w1, w2⟩ := hw
  obtain ⟨i, j, a, b, c⟩ := fb_twice w1 (by omega)
  exact w2 i j a b c
/-- blocks of two by two; threes in a row or a column -/
def blk (s : Nat) : Nat := if s / 5 = 4 ∧ s % 5 = 4 then 8 else if s % 5 = 4 then 4 + s / 5 / 2 else if s / 5 = 4 then 6 + s % 5 / 2 else 2 * (s / 5 / 2) + s % 5 / 2
def tri (s : Nat) : Nat := [0, 2, 1, 1, 1, 0, 2, 3, 3, 3, 0, 2, 8, 5, 7, 4, 4, 4, 5, 7, 6, 6, 6, 5, 7].getD s 0
theorem blk_le : ∀ s, s < 25 → blk s ≤ 8 := by decide +kernel
theorem blk_8 : ∀ s, s < 25 → ∀ t, t < 25 → blk s = 8 → blk t = 8 → s = t := by decide +kernel
theorem blk_bes : ∀ s, s < 25 → ∀ t, t < 25 → s ≠ t → blk s = blk t → besN s t = true := by decide +kernel
theorem tri_le : ∀ s, s < 25 → tri s ≤ 8 := by decide +kernel
theorem tri_8 : ∀ s, s < 25 → ∀ t, t < 25 → tri s = 8 → tri t = 8 → s = t := by decide +kernel
def triC (s t u : Nat) : Bool := (List.range 4).any fun d => decide (nx d s = u) || (decide (nx d s = t) && decide (nx d t = u))
/-- of three of a three the first leads to the last: beside it, or past the other -/
def triK (s t u : Nat) : Bool := decide (s = t) || decide (t = u) || decide (s = u) || decide (tri s ≠ tri t) || decide (tri t ≠ tri u) || triC s t u
theorem triK_all : ∀ s, s < 25 → ∀ t, t < 25 → ∀ u, u < 25 → triK s t u = true := by decide +kernel
theorem tri_go {s t u : Nat} (hs : s < 25) (ht : t < 25) (hu : u < 25) (h1 : s ≠ t) (h2 : t ≠ u) (h3 : s ≠ u) (h4 : tri s = tri t) (h5 : tri t = tri u) : triC s t u = true := by
  have := triK_all s hs t ht u hu
  unfold triK at this
  simp [h1, h2, h3, h4, h5] at this
  exact this
theorem bes_dir : ∀ s, s < 25 → ∀ t, t < 25 → besN s t = true → ((List.range 8).any fun d => decide (nx d s = t)) = true := by decide +kernel
theorem ray_1 {T : Nat → Bool} {d m s t : Nat} (h : nx d s = t) (ht : t < 25) : rayB T d (m + 1) s t = true := by
  unfold rayB
  rw [h]
  simp [ht]
theorem ray_2 {T : Nat → Bool} {d m s t u : Nat} (h : nx d s = t) (h2 : nx d t = u) (ht : t < 25) (hu : u < 25) (hT : T t = false) : rayB T d (m + 2) s u = true := by
  unfold rayB
  rw [h, hT, ray_1 h2 hu]
  simp [ht]
/-! knights: no way without short cuts is longer than 14 -/
def knL (s : Nat) : List Nat := [[7, 11], [8, 10, 12], [5, 9, 11, 13], [6, 12, 14], [7, 13], [2, 12, 16], [3, 13, 15, 17], [0, 4, 10, 14, 16, 18], [1, 11, 17, 19], [2, 12, 18], [1, 7, 17, 21], [0, 2, 8, 18, 20, 22], [1, 3, 5, 9, 15, 19, 21, 23], [2, 4, 6, 16, 22, 24], [3, 7, 17, 23], [6, 12, 22], [5, 7, 13, 23], [6, 8, 10, 14, 20, 24], [7, 9, 11, 21], [8, 12, 22], [11, 17], [10, 12, 18], [11, 13, 15, 19], [12, 14, 16], [13, 17]].getD s []
def knM (s : Nat) : Nat := [2176, 5376, 10784, 20544, 8320, 69636, 172040, 345105, 657410, 266244, 2228354, 5505285, 11043370, 21037140, 8519816, 4198464, 8396960, 17843520, 2099840, 4198656, 133120, 267264, 567296, 86016, 139264].getD s 0
/-- whether every way on from a square, off those forbidden (bits), ends within so many moves -/
def knE : Nat → Nat → Nat → Bool
  | 0, _, _ => false
  | d + 1, s, b => (knL s).all fun t => Nat.testBit b t || knE d t (b ||| knM s ||| 2 ^ t)
set_option maxRecDepth 100000 in
theorem knE_all : ∀ s, s < 25 → knE 16 s (2 ^ s) = true := by decide +kernel
theorem knL_is : ∀ s, s < 25 → ∀ t, t < 25 → ((List.range 8).any fun d => decide (stp s (jmpX d) (jmpY d) = t)) = (knL s).contains t := by decide +kernel
theorem knM_is : ∀ s, s < 25 → ∀ t, t < 25 → Nat.testBit (knM s) t = (knL s).contains t := by decide +kernel
theorem kn_end : ∀ (d s b n : Nat) (f : Nat → Nat), knE d s b = true → f 0 = s → (∀ i, i ≤ n → f i < 25) → (∀ i, i < n → (knL (f i)).contains (f (i + 1)) = true) → (∀ i k, i < k → k ≤ n → f i ≠ f k) → (∀ i k, i < k → k ≤ n → (knL (f i)).contains (f k) = true → k = i + 1) → (∀ i, 1 ≤ i → i ≤ n → Nat.testBit b (f i) = false) → n < d
  | 0, s, b, n, f, h, _, _, _, _, _, _ => by cases h
  | d + 1, s, b, n, f, h, h0, hf, hs, hi, hc, hb => by
    by_cases hn : n = 0
    · omega
    · have h1 := hs 0 (by omega)
      unfold knE at h
      rw [List.all_eq_true] at h
      have h2 := h (f 1) (by rw [← h0]; simpa using h1)
      rw [hb 1 (by omega) (by omega), Bool.false_or] at h2
      have := kn_end d (f 1) (b ||| knM s ||| 2 ^ f 1) (n - 1) (fun i => f (i + 1)) h2 rfl (fun i hi => hf (i + 1) (by omega)) (fun i hi => hs (i + 1) (by omega)) (fun i k a c => hi (i + 1) (k + 1) (by omega) (by omega)) (fun i k a c e => by have := hc (i + 1) (k + 1) (by omega) (by omega) e; omega) (fun i a c => ?_)
      · omega
      · show Nat.testBit (b ||| knM s ||| 2 ^ f 1) (f (i + 1)) = false
        rw [fb_bit_set, Nat.testBit_or, hb (i + 1) (by omega) (by omega), ← h0, knM_is _ (hf 0 (by omega)) _ (hf (i + 1) (by omega))]
        have n1 : f (i + 1) ≠ f 1 := fun z => hi 1 (i + 1) (by omega) (by omega) z.symm
        have n2 : (knL (f 0)).contains (f (i + 1)) = false := by
          cases e : (knL (f 0)).contains (f (i + 1)) with
          | false => rfl
          | true =>
            have := hc 0 (i + 1) (by omega) (by omega) e
            omega
        rw [n2]
        simp [n1]
