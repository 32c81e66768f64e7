theorem go_notown {B : sBd} (hW : WF B) {p f t : Nat} (hp : p < bN B) (ht : t < 25) (hg : goB B p f t = true) : ownB B p t = false := by
  cases ho : ownB B p t with
  | false => rfl
  | true =>
    obtain ⟨w1, w2⟩ := ownfoe hW hp ht
    by_cases c : who B t < bN B
    · by_cases e : who B t = p
      · rw [(w2 (fun _ => e)).1] at ho; cases ho
      · obtain ⟨a, b⟩ := w1 c e
        rw [ho] at a
        rw [goB_own (by rw [b, ← a]; rfl) ho] at hg
        cases hg
    · rw [(w2 (fun z => absurd z c)).1] at ho; cases ho
theorem fr_T {B : sBd} (hW : WF B) {p s : Nat} (hp : p < bN B) (hf : frB B p s = true) : (ownB B p s || foeB B p s) = false := by
  rw [own_foe_occ hW hp]
  unfold frB at hf
  simpa using hf
def pwK (f t sd : Nat) : Bool := !(decide (stp f 0 (pup sd) = t) || (decide (stp f (-1) (pup sd) = t) || decide (stp f 1 (pup sd) = t))) || (if sd = 0 then decide (t / 5 = f / 5 + 1) else decide (t / 5 + 1 = f / 5))
theorem pwK_all : ∀ f, f < 25 → ∀ t, t < 25 → ∀ sd, sd < 2 → pwK f t sd = true := by decide +kernel
theorem diag_par : ∀ d, d < 4 → ∀ s, s < 25 → nx (4 + d) s < 25 → (nx (4 + d) s) % 2 = s % 2 := by decide +kernel
theorem ray_par {T : Nat → Bool} {d : Nat} (hd : d < 4) : ∀ {m s t : Nat}, s < 25 → rayB T (4 + d) m s t = true → t % 2 = s % 2
  | 0, _, _, _, h => by cases h
  | m + 1, s, t, hs, h => by
    unfold rayB at h
    simp only [Bool.and_eq_true, Bool.or_eq_true, decide_eq_true_eq] at h
    obtain ⟨h1, h2⟩ := h
    have e := diag_par d hd s hs h1
    rcases h2 with h2 | ⟨-, h2⟩
    · rw [← h2]; exact e
    · rw [ray_par hd h1 h2, e]
theorem hops_16 {B : sBd} (hW : WF B) {p g s n : Nat} (hp : p < bN B) (hs : s < 25) (hl : Lv (goB B p) (frB B p) g n s = true) : n ≤ 16 := by
  obtain ⟨f, f0, f1, f2⟩ := Lv_path hs hl
  have hf : ∀ i, i ≤ n → f i < 25 := fun i hi => (f1 i hi).1
  have inj : ∀ i k, i < k → k ≤ n → f i ≠ f k := fun i k h1 h2 => Lv_inj f1 h1 h2
  have short : ∀ i k, i < k → k ≤ n → goB B p (f i) (f k) = true → k = i + 1 := fun i k h1 h2 h3 => Lv_short f1 h1 h2 h3
  have own : ∀ k, 1 ≤ k → k ≤ n → ownB B p (f k) = false := fun k h1 h2 => by
    have := f2 (k - 1) (by omega)
    rw [show k - 1 + 1 = k by omega] at this
    exact go_notown hW hp (hf k h2) this
  have free : ∀ k, k < n → (ownB B p (f k) || foeB B p (f k)) = false := fun k h1 => by
    have := (f1 k (by omega)).2
    rw [show n - k = (n - k - 1) + 1 by omega, Lv_s] at this
    simp only [Bool.and_eq_true] at this
    exact fr_T hW hp this.2.1
  have hk := (hW.2.2.1 p hp).1
  have hsd := (hW.2.2.1 p hp).2.1
  rcases (show bK B p = 0 ∨ bK B p = 1 ∨ bK B p = 2 ∨ bK B p = 3 ∨ bK B p = 4 ∨ bK B p = 5 by omega) with e | e | e | e | e | e
  · refine nine hf (fun s hs => blk_le s hs) (fun s t a b => blk_8 s a t b) inj (fun i j k h1 h2 h3 h4 h5 => ?_)
    have hb := blk_bes (f i) (hf i (by omega)) (f k) (hf k h3) (inj i k (by omega) h3) (h4.trans h5)
    have : goB B p (f i) (f k) = true := by
      unfold goB goC
      rw [e]
      show (besN (f i) (f k) && !ownB B p (f k)) = true
      rw [hb, own k (by omega) h3]; rfl
    have := short i k (by omega) h3 this
    omega
  · refine nine hf (fun s hs => blk_le s hs) (fun s t a b => blk_8 s a t b) inj (fun i j k h1 h2 h3 h4 h5 => ?_)
    have hb := blk_bes (f i) (hf i (by omega)) (f k) (hf k h3) (inj i k (by omega) h3) (h4.trans h5)
    have hd := bes_dir (f i) (hf i (by omega)) (f k) (hf k h3) hb
    rw [List.any_eq_true] at hd
    obtain ⟨d, d1, d2⟩ := hd
    have : goB B p (f i) (f k) = true := by
      unfold goB goC
      rw [e]
      show (((List.range 8).any fun d => rayB (fun s => ownB B p s || foeB B p s) d 4 (f i) (f k)) && !ownB B p (f k)) = true
      have hr : rayB (fun s => ownB B p s || foeB B p s) d 4 (f i) (f k) = true := ray_1 (of_decide_eq_true d2) (hf k h3)
      rw [own k (by omega) h3, List.any_eq_true.mpr ⟨d, d1, hr⟩]; rfl
    have := short i k (by omega) h3 this
    omega
  · refine nine hf (fun s hs => tri_le s hs) (fun s t a b => tri_8 s a t b) inj (fun i j k h1 h2 h3 h4 h5 => ?_)
    have ht := tri_go (hf i (by omega)) (hf j (by omega)) (hf k h3) (inj i j h1 (by omega)) (inj j k h2 h3) (inj i k (by omega) h3) h4 h5
    unfold triC at ht
    rw [List.any_eq_true] at ht
    obtain ⟨d, d1, d2⟩ := ht
    have hr : rayB (fun s => ownB B p s || foeB B p s) d 4 (f i) (f k) = true := by
      simp only [Bool.or_eq_true, Bool.and_eq_true, decide_eq_true_eq] at d2
      rcases d2 with d2 | ⟨d2, d3⟩
      · exact ray_1 d2 (hf k h3)
      · exact ray_2 d2 d3 (hf j (by omega)) (hf k h3) (free j (by omega))
    have : goB B p (f i) (f k) = true := by
      unfold goB goC
      rw [e]
      show (((List.range 4).any fun d => rayB (fun s => ownB B p s || foeB B p s) d 4 (f i) (f k)) && !ownB B p (f k)) = true
      rw [own k (by omega) h3, List.any_eq_true.mpr ⟨d, d1, hr⟩]; rfl
    have := short i k (by omega) h3 this
    omega
  · have par : ∀ i, i ≤ n → f i % 2 = f 0 % 2 := by
      intro i
      induction i with
      | zero => intro _; rfl
      | succ i ih =>
        intro hi
        rw [← ih (by omega)]
        have h2 := f2 i (by omega)
        unfold goB goC at h2
        rw [e] at h2
        have h2 : (((List.range 4).any fun d => rayB (fun s => ownB B p s || foeB B p s) (4 + d) 4 (f i) (f (i + 1))) && !ownB B p (f (i + 1))) = true := h2
        simp only [Bool.and_eq_true, List.any_eq_true, List.mem_range] at h2
        obtain ⟨⟨d, d1, d2⟩, -⟩ := h2
        exact ray_par d1 (hf i (by omega)) d2
    refine Nat.not_lt.mp fun hn => ?_
    obtain ⟨i, j, a, b, c⟩ := fb_twice (m := 13) (n := 18) (f := fun i => f i / 2) (fun i hi => by have := hf i (by omega); omega) (by omega)
    have p1 := par i (by omega)
    have p2 := par j (by omega)
    exact inj i j a (by omega) (by omega)
  · have step : ∀ i k, goB B p (f i) (f k) = true → i ≤ n → k ≤ n → (knL (f i)).contains (f k) = true := by
      intro i k h hi hk'
      unfold goB goC at h
      rw [e] at h
      have h : (((List.range 8).any fun d => decide (stp (f i) (jmpX d) (jmpY d) = f k)) && !ownB B p (f k)) = true := h
      rw [knL_is _ (hf i hi) _ (hf k hk'), Bool.and_eq_true] at h
      exact h.1
    have back : ∀ i k, i < k → k ≤ n → (knL (f i)).contains (f k) = true → goB B p (f i) (f k) = true := by
      intro i k h1 h2 h
      unfold goB goC
      rw [e]
      show (((List.range 8).any fun d => decide (stp (f i) (jmpX d) (jmpY d) = f k)) && !ownB B p (f k)) = true
      rw [knL_is _ (hf i (by omega)) _ (hf k h2), h, own k (by omega) h2]; rfl
    have := kn_end 16 (f 0) (2 ^ f 0) n f (knE_all _ (hf 0 (by omega))) rfl hf (fun i hi => step i (i + 1) (f2 i hi) (by omega) (by omega)) inj (fun i k h1 h2 h => short i k h1 h2 (back i k h1 h2 h)) (fun i h1 h2 => by
      rw [Nat.testBit_two_pow]
      exact decide_eq_false (fun z => inj 0 i (by omega) h2 z))
    omega
  · have row : ∀ i, i < n → (if bS B p = 0 then f (i + 1) / 5 = f i / 5 + 1 else f (i + 1) / 5 + 1 = f i / 5) := by
      intro i hi
      have h2 := f2 i hi
      unfold goB goC at h2
      rw [e] at h2
      have h2 : ((decide (stp (f i) 0 (pup (bS B p)) = f (i + 1)) && !(ownB B p (f (i + 1)) || foeB B p (f (i + 1)))) || ((decide (stp (f i) (-1) (pup (bS B p)) = f (i + 1)) || decide (stp (f i) 1 (pup (bS B p)) = f (i + 1))) && foeB B p (f (i + 1)))) = true := h2
      have k := pwK_all (f i) (hf i (by omega)) (f (i + 1)) (hf (i + 1) (by omega)) (bS B p) (by omega)
      unfold pwK at k
      simp only [Bool.or_eq_true, Bool.and_eq_true] at h2
      have any : (decide (stp (f i) 0 (pup (bS B p)) = f (i + 1)) || (decide (stp (f i) (-1) (pup (bS B p)) = f (i + 1)) || decide (stp (f i) 1 (pup (bS B p)) = f (i + 1)))) = true := by
        simp only [Bool.or_eq_true]
        rcases h2 with h2 | h2
        · exact Or.inl h2.1
        · exact Or.inr h2.1
      rw [any, Bool.not_true, Bool.false_or] at k
      by_cases c : bS B p = 0
      · rw [if_pos c] at k ⊢
        exact of_decide_eq_true k
      · rw [if_neg c] at k ⊢
        exact of_decide_eq_true k
    have far : ∀ i, i ≤ n → (if bS B p = 0 then f i / 5 = f 0 / 5 + i else f i / 5 + i = f 0 / 5) := by
      intro i
      induction i with
      | zero => intro _; split <;> rfl
      | succ i ih =>
        intro hi
        have a := ih (by omega)
        have b := row i (by omega)
        by_cases c : bS B p = 0
        · rw [if_pos c] at a b ⊢; omega
        · rw [if_neg c] at a b ⊢; omega
    have a := far n (Nat.le_refl _)
    have b := hf n (Nat.le_refl _)
    have c := hf 0 (by omega)
    by_cases c0 : bS B p = 0
    · rw [if_pos c0] at a; omega
    · rw [if_neg c0] at a; omega
