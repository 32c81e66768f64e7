/-! a piece that moves alone: its walk opened; ways -/
theorem own_foe_occ {B : sBd} (hW : WF B) {p s : Nat} (hp : p < bN B) : (ownB B p s || foeB B p s) = occ B (fun i => decide (i ≠ p)) s := by
  have hsp := (hW.2.2.1 p hp).2.1
  apply Bool.eq_iff_iff.mpr
  unfold ownB foeB
  rw [Bool.or_eq_true, occ_iff, occ_iff, occ_iff]
  simp only [Bool.and_eq_true, decide_eq_true_eq]
  constructor
  · rintro (⟨i, h1, h2, h3⟩ | ⟨i, h1, h2, h3⟩)
    · exact ⟨i, h1, h2.1, h3⟩
    · exact ⟨i, h1, h2.1, h3⟩
  · rintro ⟨i, h1, h2, h3⟩
    have hsi := (hW.2.2.1 i h1).2.1
    by_cases e : bS B i = bS B p
    · exact Or.inl ⟨i, h1, ⟨h2, e⟩, h3⟩
    · exact Or.inr ⟨i, h1, ⟨h2, by omega⟩, h3⟩
def WK (h : rb_H) (B : sBd) (p : Nat) : Prop := rb_hF h 27 6 = nI (bP B p) ∧ rb_hF h 27 7 = bits (frB B p) 25 ∧ ∀ f, f < 25 → rb_hI h 28 f = bits (goB B p f) 25
theorem WK_ag {L : List Nat} {h h' : rb_H} {B : sBd} {p : Nat} (hr : WK h B p) (hA : Ag L h h') (hL : NL [27, 28] L = true) : WK h' B p :=
  ⟨(AgF (a := 27) (i := 6) hA (NL_at hL (by decide))).trans hr.1, (AgF (a := 27) (i := 7) hA (NL_at hL (by decide))).trans hr.2.1, fun f hf => (AgI hA (NL_at hL (by decide)) f).trans (hr.2.2 f hf)⟩
theorem all25 (i : Nat) (hi : i < 32) : bt 33554431 i = decide (i < 25) := by
  have : ∀ i, i < 32 → bt 33554431 i = decide (i < 25) := by decide +kernel
  exact this i hi
theorem C_open {h : rb_H} {B : sBd} (hR : RS h 94 B) (hW : WF B) {p : Nat} (hp : p < bN B) : ∃ h', fW_open 94 (nI p) h = some h' ∧ WK h' B p ∧ Ag [27, 28] h h' := by
  have h8 := hW.1
  have hw := hW.2.2.1 p hp
  have e1 : (1 : Int32) - nI (bS B p) = nI (1 - bS B p) := nI_sub1 hw.2.1
  have q := RS94 hR hp
  have f6 : fid 27 6 ∈ [27, 28] := by decide
  have f7 : fid 27 7 ∈ [27, 28] := by decide
  unfold fW_open fW_open_0
  have s1 : fS_squaresOf 94 (nI (bS B p)) (nI p) h = some (bits (ownB B p) 25) := S_squaresOf hR hW (show bS B p < 100 by omega) (show p < 100 by omega)
  have s2 : fS_squaresOf 94 (nI (1 - bS B p)) (nI p) h = some (bits (foeB B p) 25) := S_squaresOf hR hW (show 1 - bS B p < 100 by omega) (show p < 100 by omega)
  have q2 : rb_hI h (94 + 2) p = nI (bS B p) := q.2.1
  have q3 : rb_hI h (94 + 3) p = nI (bP B p) := q.2.2.1
  simp only [if_neg (oob_n (show p < 8 by omega) (by omega)), cl_n (show p < 2 ^ 31 by omega), q2, q3, s1, s2, e1, Option.bind_some]
  have free : (33554431 : Int32) &&& ((bits (ownB B p) 25 ||| bits (foeB B p) 25) ^^^ (-1)) = bits (frB B p) 25 := by
    refine bits_of (by omega) (fun i hi => ?_)
    rw [b_and, xor_m1 _ hi, b_or, all25 i hi, bits_bt _ 25 (by omega) i hi, bits_bt _ 25 (by omega) i hi]
    unfold frB
    rw [← own_foe_occ hW hp]
    cases decide (i < 25) <;> simp
  rw [free]
  generalize hg : rb_sF (rb_sF h 27 6 (nI (bP B p))) 27 7 (bits (frB B p) 25) = g
  have A0 : Ag [27, 28] h g := by rw [← hg]; exact Ag_sF f7 (Ag_sF f6 (Ag_refl _ _))
  have main : ∃ x, rb_iter rb_fuel (fun s => fW_open_52b 94 (nI p) (nI (bS B p)) (bits (ownB B p) 25) (bits (foeB B p) 25) s.1 s.2) ((0 : Int32), g) = some x ∧ (Ag [28] g x ∧ ∀ f, f < 25 → rb_hI x 28 f = bits (goB B p f) 25) := by
    refine rb_runP (fun k s => s.1 = nI k ∧ Ag [28] g s.2 ∧ ∀ f, f < k → rb_hI s.2 28 f = bits (goB B p f) 25) _ 25 ⟨rfl, Ag_refl _ _, fun i hi => absurd hi (Nat.not_lt_zero _)⟩ (by omega) ?_ ?_
    · rintro k ⟨v, h1⟩ hk ⟨e, hA, hI⟩
      dsimp only at e hA hI ⊢
      subst e
      have qk : rb_hI h1 (94 + 1) p = nI (bK B p) := ((AgI hA (by decide) p).trans (AgI A0 (by decide) p)).trans q.1
      have hgo : bits (goC (bK B p) (bS B p) k (bt (bits (ownB B p) 25)) (bt (bits (foeB B p) 25))) 25 = bits (goB B p k) 25 := bits_congr (fun t ht => goC_congr (fun s hs => own_bt hs) (fun s hs => foe_bt hs) ht)
      unfold fW_open_52b
      simp only [if_neg (show ¬ (25 : Int32) ≤ nI k from nI_ge (b := 25) hk (by omega)), if_neg (oob_n (show p < 8 by omega) (by omega)), cl_n (show p < 2 ^ 31 by omega), qk, B_reachOf hw.1 hw.2.1 hk, Option.bind_some, if_neg (oob_n (show k < 25 by omega) (by omega)), cl_n (show k < 2 ^ 31 by omega), hgo, nI_1]
      refine ⟨_, rfl, rfl, Ag_sI (by simp) hA, fun f hf => ?_⟩
      rw [hI_sI]
      by_cases e : f = k
      · rw [if_pos ⟨rfl, e⟩, e]
      · rw [if_neg (fun z => e z.2)]; exact hI f (by omega)
    · rintro ⟨v, h1⟩ ⟨e, hA, hI⟩
      dsimp only at e hA hI ⊢
      subst e
      unfold fW_open_52b
      rw [if_pos (by decide)]
      exact ⟨_, rfl, hA, hI⟩
  obtain ⟨x, m1, m2, m3⟩ := main
  rw [m1]
  refine ⟨x, rfl, ⟨?_, ?_, m3⟩, Ag_trans A0 (AgS (by decide) m2)⟩
  · rw [AgF (a := 27) (i := 6) m2 (by decide), ← hg, hF_sF, if_neg (by decide), hF_sF, if_pos ⟨rfl, rfl⟩]
  · rw [AgF (a := 27) (i := 7) m2 (by decide), ← hg, hF_sF, if_pos ⟨rfl, rfl⟩]
/-! sums -/
theorem sm_swap (a : Nat → Nat → Nat) (m : Nat) : ∀ n, fb_sm (fun t => fb_sm (fun f => a t f) m) n = fb_sm (fun f => fb_sm (fun t => a t f) n) m
  | 0 => by
    have : ∀ m, fb_sm (fun _ : Nat => 0) m = 0 := fun m => by rw [fb_sm_const]; omega
    exact (this m).symm
  | n + 1 => by
    show fb_sm (fun t => fb_sm (fun f => a t f) m) n + fb_sm (fun f => a n f) m = _
    rw [sm_swap a m n, ← fb_sm_add]
    rfl
theorem sm_mulL (c : Nat) (f : Nat → Nat) : ∀ n, c * fb_sm f n = fb_sm (fun i => c * f i) n
  | 0 => Nat.mul_zero c
  | n + 1 => by
    show c * (fb_sm f n + f n) = fb_sm (fun i => c * f i) n + c * f n
    rw [Nat.mul_add, sm_mulL c f n]
theorem sm_mulR (c : Nat) (f : Nat → Nat) (n : Nat) : fb_sm f n * c = fb_sm (fun i => f i * c) n := by
  rw [Nat.mul_comm, sm_mulL]
  exact fb_sm_cong (fun k _ => Nat.mul_comm _ _)
theorem sm_one (f : Nat → Nat) {j : Nat} : ∀ {n : Nat}, j < n → fb_sm (fun i => if i = j then f i else 0) n = f j
  | 0, h => absurd h (Nat.not_lt_zero _)
  | n + 1, h => by
    show fb_sm (fun i => if i = j then f i else 0) n + (if n = j then f n else 0) = f j
    by_cases e : n = j
    · subst e
      have : fb_sm (fun i => if i = n then f i else 0) n = fb_sm (fun _ => 0) n := fb_sm_cong (fun k hk => if_neg (by omega))
      rw [this, fb_sm_const, if_pos rfl]
      omega
    · rw [if_neg e, sm_one f (by omega)]
      rfl
/-- rows of k moves from s that end at to -/
def Mw (B : sBd) (p to : Nat) : Nat → Nat → Nat
  | 0, s => if s = to then 1 else 0
  | k + 1, s => fb_sm (fun t => if (k = 0 ∨ frB B p t = true) ∧ goB B p s t = true then Mw B p to k t else 0) 25
/-- rows of i moves (of n) that come to t -/
def Cw (B : sBd) (p st n : Nat) : Nat → Nat → Nat
  | 0, t => if t = st then 1 else 0
  | i + 1, t => fb_sm (fun f => if (i + 1 = n ∨ frB B p t = true) ∧ goB B p f t = true then Cw B p st n i f else 0) 25
theorem Mw_le (B : sBd) (p to : Nat) : ∀ k s, Mw B p to k s ≤ 25 ^ k
  | 0, s => by
    show (if s = to then 1 else 0) ≤ 1
    split <;> omega
  | k + 1, s => by
    have : fb_sm (fun t => if (k = 0 ∨ frB B p t = true) ∧ goB B p s t = true then Mw B p to k t else 0) 25 ≤ 25 * 25 ^ k := by
      refine fb_sm_bound (fun t _ => ?_)
      have := Mw_le B p to k t
      split
      · exact this
      · exact Nat.zero_le _
    rw [Nat.pow_succ, Nat.mul_comm]
    exact this
theorem CM_step (B : sBd) (p st to n i : Nat) (hi : i < n) : fb_sm (fun t => Cw B p st n (i + 1) t * Mw B p to (n - (i + 1)) t) 25 = fb_sm (fun f => Cw B p st n i f * Mw B p to (n - i) f) 25 := by
  have e : n - i = (n - (i + 1)) + 1 := by omega
  have l : ∀ t, t < 25 → Cw B p st n (i + 1) t * Mw B p to (n - (i + 1)) t = fb_sm (fun f => if (i + 1 = n ∨ frB B p t = true) ∧ goB B p f t = true then Cw B p st n i f * Mw B p to (n - (i + 1)) t else 0) 25 := by
    intro t _
    show fb_sm _ 25 * _ = _
    rw [sm_mulR]
    refine fb_sm_cong (fun f _ => ?_)
    show (if (i + 1 = n ∨ frB B p t = true) ∧ goB B p f t = true then Cw B p st n i f else 0) * Mw B p to (n - (i + 1)) t = _
    split
    · rfl
    · rw [Nat.zero_mul]
  have r : ∀ f, f < 25 → Cw B p st n i f * Mw B p to (n - i) f = fb_sm (fun t => if (i + 1 = n ∨ frB B p t = true) ∧ goB B p f t = true then Cw B p st n i f * Mw B p to (n - (i + 1)) t else 0) 25 := by
    intro f _
    rw [e]
    show _ * fb_sm _ 25 = _
    rw [sm_mulL]
    refine fb_sm_cong (fun t _ => ?_)
    have z : (n - (i + 1) = 0 ∨ frB B p t = true) ↔ (i + 1 = n ∨ frB B p t = true) := by
      constructor
      · rintro (h | h)
        · exact Or.inl (by omega)
        · exact Or.inr h
      · rintro (h | h)
        · exact Or.inl (by omega)
        · exact Or.inr h
    show _ * (if (n - (i + 1) = 0 ∨ frB B p t = true) ∧ goB B p f t = true then Mw B p to (n - (i + 1)) t else 0) = _
    simp only [z]
    split
    · rfl
    · rw [Nat.mul_zero]
  rw [fb_sm_cong l, fb_sm_cong r]
  exact sm_swap _ _ _
theorem CM_all (B : sBd) (p : Nat) {st to n : Nat} (hst : st < 25) (hto : to < 25) : Cw B p st n n to = Mw B p to n st := by
  have key : ∀ i, i ≤ n → fb_sm (fun t => Cw B p st n i t * Mw B p to (n - i) t) 25 = Mw B p to n st := by
    intro i
    induction i with
    | zero =>
      intro _
      rw [fb_sm_cong (g := fun t => if t = st then Mw B p to n t else 0) (fun t _ => by
        show (if t = st then 1 else 0) * Mw B p to (n - 0) t = _
        split
        · rw [Nat.one_mul]; rfl
        · rw [Nat.zero_mul])]
      exact sm_one _ hst
    | succ i ih =>
      intro hi
      rw [CM_step B p st to n i (by omega)]
      exact ih (by omega)
  rw [← key n (Nat.le_refl _), Nat.sub_self]
  rw [fb_sm_cong (g := fun t => if t = to then Cw B p st n n t else 0) (fun t _ => by
    show Cw B p st n n t * (if t = to then 1 else 0) = _
    split
    · rw [Nat.mul_one]
    · rw [Nat.mul_zero])]
  exact (sm_one _ hto).symm
theorem C_fill {h : rb_H} {o n : Nat} (hl : rb_len o = n) (hn : n < 1000) (v : Int32) : ∃ h', fJA_fill o v h = some h' ∧ (∀ i, i < n → rb_hI h' o i = v) ∧ Ag [o] h h' := by
  unfold fJA_fill fJA_fill_0
  rw [hl]
  have main : ∃ x, rb_iter rb_fuel (fun s => fJA_fill_5b o v s.1 (Int32.ofNat n) s.2) ((0 : Int32), h) = some x ∧ ((∀ i, i < n → rb_hI x o i = v) ∧ Ag [o] h x) := by
    refine rb_runP (fun k s => s.1 = nI k ∧ (∀ i, i < k → rb_hI s.2 o i = v) ∧ Ag [o] h s.2) _ n ⟨rfl, fun i hi => absurd hi (Nat.not_lt_zero _), Ag_refl _ _⟩ (by omega) ?_ ?_
    · rintro k ⟨w, h1⟩ hk ⟨e, hI, hA⟩
      dsimp only at e hA hI ⊢
      subst e
      unfold fJA_fill_5b
      rw [if_neg (show ¬ Int32.ofNat n ≤ nI k from nI_ge hk (by omega)), hl, if_neg (oob_n hk (by omega)), cl_n (by omega), nI_1]
      refine ⟨_, rfl, rfl, fun i hi => ?_, Ag_sI (by simp) hA⟩
      rw [hI_sI]
      by_cases e : i = k
      · rw [if_pos ⟨rfl, e⟩]
      · rw [if_neg (fun z => e z.2)]; exact hI i (by omega)
    · rintro ⟨w, h1⟩ ⟨e, hI, hA⟩
      dsimp only at e hA hI ⊢
      subst e
      unfold fJA_fill_5b
      rw [if_pos (show Int32.ofNat n ≤ nI n from nI_le (Nat.le_refl _) (by omega))]
      exact ⟨_, rfl, hI, hA⟩
  obtain ⟨x, m1, m2, m3⟩ := main
  rw [m1]
  exact ⟨x, rfl, m2, m3⟩
theorem C_spread {h : rb_H} {B : sBd} {p : Nat} (hK : WK h B p) (a : Nat → Bool) {c : Nat → Nat} (hc : ∀ f, f < 25 → rb_hI h 30 f = nI (c f)) : ∃ h', fW_spread (bits a 25) h = some h' ∧ (∀ t, t < 25 → rb_hI h' 30 t = nI (fb_sm (fun f => if a t = true ∧ goB B p f t = true then c f else 0) 25)) ∧ Ag [30, 31] h h' := by
  obtain ⟨h1, f1, f2, f3⟩ := C_fill (h := h) (o := 31) (n := 25) rfl (by omega) 0
  unfold fW_spread fW_spread_0
  rw [f1]
  simp only [Option.bind_some]
  have hK1 := WK_ag hK f3 (by decide)
  have hc1 : ∀ f, f < 25 → rb_hI h1 30 f = nI (c f) := fun f hf => (AgI f3 (by decide) f).trans (hc f hf)
  have outer : ∃ x, rb_iter rb_fuel (fun s => fW_spread_10b (bits a 25) s.1 s.2) ((0 : Int32), h1) = some x ∧ (Ag [31] h1 x ∧ ∀ t, t < 25 → rb_hI x 31 t = nI (fb_sm (fun f => if a t = true ∧ goB B p f t = true then c f else 0) 25)) := by
    refine rb_runP (fun k s => s.1 = nI k ∧ Ag [31] h1 s.2 ∧ ∀ t, t < 25 → rb_hI s.2 31 t = nI (fb_sm (fun f => if a t = true ∧ goB B p f t = true then c f else 0) k)) _ 25 ⟨rfl, Ag_refl _ _, fun t ht => f2 t ht⟩ (by omega) ?_ ?_
    · rintro k ⟨w, h2⟩ hk ⟨e, hA, hI⟩
      dsimp only at e hA hI ⊢
      subst e
      have inner : ∃ x, rb_iter rb_fuel (fun s => fW_spread_18b (bits a 25) (nI k) s.1 s.2) ((0 : Int32), h2) = some x ∧ (Ag [31] h1 x ∧ ∀ t, t < 25 → rb_hI x 31 t = nI (fb_sm (fun f => if a t = true ∧ goB B p f t = true then c f else 0) (k + 1))) := by
        refine rb_runP (fun j s => s.1 = nI j ∧ Ag [31] h1 s.2 ∧ ∀ t, t < 25 → rb_hI s.2 31 t = nI (fb_sm (fun f => if a t = true ∧ goB B p f t = true then c f else 0) (if t < j then k + 1 else k))) _ 25 ⟨rfl, hA, fun t ht => by rw [if_neg (Nat.not_lt_zero _)]; exact hI t ht⟩ (by omega) ?_ ?_
        · rintro j ⟨w, h3⟩ hj ⟨e, hB, hJ⟩
          dsimp only at e hB hJ ⊢
          subst e
          have r1 : rb_hI h3 28 k = bits (goB B p k) 25 := (AgI hB (by decide) k).trans (hK1.2.2 k hk)
          have r2 : rb_hI h3 30 k = nI (c k) := (AgI hB (by decide) k).trans (hc1 k hk)
          have hj' := hJ j hj
          rw [if_neg (Nat.lt_irrefl j)] at hj'
          have hh : fB_holds (bits (goB B p k) 25 &&& bits a 25) (nI j) = (a j && goB B p k j) := by
            rw [and_bits _ _ (by omega), holds_bt _ (by omega), bits_bt _ 25 (by omega) j (by omega)]
            simp [hj, Bool.and_comm]
          unfold fW_spread_18b fW_spread_56l18
          simp only [if_neg (show ¬ (25 : Int32) ≤ nI j from nI_ge (b := 25) hj (by omega)), if_neg (oob_n (show j < 25 by omega) (by omega)), if_neg (oob_n (show k < 25 by omega) (by omega)), cl_n (show j < 2 ^ 31 by omega), cl_n (show k < 2 ^ 31 by omega), r1, r2, hh, hj', nI_1, nI_add, i0, Bool.and_eq_true]
          have fin : ∀ v : Int32, v = nI (fb_sm (fun f => if a j = true ∧ goB B p f j = true then c f else 0) (k + 1)) → ∀ t, t < 25 → rb_hI (rb_sI h3 31 j v) 31 t = nI (fb_sm (fun f => if a t = true ∧ goB B p f t = true then c f else 0) (if t < j + 1 then k + 1 else k)) := by
            intro v hv t ht
            rw [hI_sI]
            by_cases e : t = j
            · rw [if_pos ⟨rfl, e⟩, e, if_pos (Nat.lt_succ_self j)]; exact hv
            · rw [if_neg (fun z => e z.2), hJ t ht]
              by_cases e2 : t < j
              · rw [if_pos e2, if_pos (by omega)]
              · rw [if_neg e2, if_neg (by omega)]
          by_cases cc : a j = true ∧ goB B p k j = true
          · rw [if_pos cc]
            refine ⟨_, rfl, rfl, Ag_sI (by simp) hB, fin _ ?_⟩
            show nI _ = nI (_ + (if a j = true ∧ goB B p k j = true then c k else 0))
            rw [if_pos cc]
          · rw [if_neg cc]
            refine ⟨_, rfl, rfl, Ag_sI (by simp) hB, fin _ ?_⟩
            show nI _ = nI (_ + (if a j = true ∧ goB B p k j = true then c k else 0))
            rw [if_neg cc]; rfl
        · rintro ⟨w, h3⟩ ⟨e, hB, hJ⟩
          dsimp only at e hB hJ ⊢
          subst e
          unfold fW_spread_18b
          rw [if_pos (by decide)]
          refine ⟨_, rfl, hB, fun t ht => ?_⟩
          have := hJ t ht
          rw [if_pos ht] at this
          exact this
      obtain ⟨x, m1, m2, m3⟩ := inner
      unfold fW_spread_10b
      rw [if_neg (show ¬ (25 : Int32) ≤ nI k from nI_ge (b := 25) hk (by omega)), m1]
      exact ⟨_, rfl, nI_1 _, m2, m3⟩
    · rintro ⟨w, h2⟩ ⟨e, hA, hI⟩
      dsimp only at e hA hI ⊢
      subst e
      unfold fW_spread_10b
      rw [if_pos (by decide)]
      exact ⟨_, rfl, hA, hI⟩
  obtain ⟨x, m1, m2, m3⟩ := outer
  rw [m1]
  simp only [Option.bind_some]
  refine ⟨_, rfl, fun t ht => ?_, Ag_cp (by decide) (Ag_trans (AgS (by decide) f3) (AgS (by decide) m2))⟩
  rw [hI_cp, if_pos ⟨rfl, Nat.zero_le _, by omega⟩]
  have := m3 t ht
  rw [Nat.sub_zero, Nat.zero_add]
  exact this
theorem ev_bits : bits (fun _ => true) 25 = 33554431 := by
  refine b_ext (fun i hi => ?_)
  rw [bits_bt _ 25 (by omega) i hi, all25 i hi]
  simp
theorem C_rows {h : rb_H} {B : sBd} {p to n : Nat} (hK : WK h B p) (hpl : bP B p < 25) (hto : to < 25) (hn : n ≤ 4) : ∃ h', fW_rowsTo (nI to) (nI n) h = some (nI (Cw B p (bP B p) n n to), h') ∧ Ag [30, 31] h h' := by
  obtain ⟨h1, f1, f2, f3⟩ := C_fill (h := h) (o := 30) (n := 25) rfl (by omega) 0
  have hK1 := WK_ag hK f3 (by decide)
  unfold fW_rowsTo fW_rowsTo_0
  rw [f1]
  simp only [Option.bind_some, hK1.1, if_neg (oob_n hpl (by omega)), cl_n (show bP B p < 2 ^ 31 by omega)]
  have A1 : Ag [30, 31] h (rb_sI h1 30 (bP B p) 1) := Ag_sI (by decide) (AgS (by decide) f3)
  have main : ∃ x, rb_iter rb_fuel (fun s => fW_rowsTo_20b (nI to) (nI n) s.1 s.2) ((1 : Int32), rb_sI h1 30 (bP B p) 1) = some x ∧ (Ag [30, 31] h x ∧ ∀ t, t < 25 → rb_hI x 30 t = nI (Cw B p (bP B p) n n t)) := by
    refine rb_runP (fun i s => s.1 = nI (i + 1) ∧ WK s.2 B p ∧ Ag [30, 31] h s.2 ∧ ∀ t, t < 25 → rb_hI s.2 30 t = nI (Cw B p (bP B p) n i t)) _ n ⟨rfl, WK_ag hK A1 (by decide), A1, fun t ht => ?_⟩ (by omega) ?_ ?_
    · show rb_hI (rb_sI h1 30 (bP B p) 1) 30 t = nI (if t = bP B p then 1 else 0)
      rw [hI_sI]
      by_cases e : t = bP B p
      · rw [if_pos ⟨rfl, e⟩, if_pos e]; rfl
      · rw [if_neg (fun z => e z.2), if_neg e, f2 t ht]; rfl
    · rintro i ⟨w, h2⟩ hi ⟨e, k1, hA, hI⟩
      dsimp only at e k1 hA hI ⊢
      subst e
      have step : ∀ (b : Int32) (a : Nat → Bool), b = bits a 25 → (∀ t, a t = true ↔ (i + 1 = n ∨ frB B p t = true)) → ∃ s', fW_rowsTo_40l20 (nI to) (nI n) (nI (i + 1)) b h2 = some (Sum.inl s') ∧ (s'.1 = nI (i + 1 + 1) ∧ WK s'.2 B p ∧ Ag [30, 31] h s'.2 ∧ ∀ t, t < 25 → rb_hI s'.2 30 t = nI (Cw B p (bP B p) n (i + 1) t)) := by
        intro b a hb ha
        obtain ⟨h3, z1, z2, z3⟩ := C_spread k1 a hI
        unfold fW_rowsTo_40l20
        rw [hb, z1]
        refine ⟨_, rfl, nI_1 _, WK_ag k1 z3 (by decide), Ag_trans hA z3, fun t ht => ?_⟩
        rw [z2 t ht]
        congr 1
        refine fb_sm_cong (fun f _ => ?_)
        have : (a t = true ∧ goB B p f t = true) ↔ ((i + 1 = n ∨ frB B p t = true) ∧ goB B p f t = true) := by rw [ha t]
        simp only [this]
      unfold fW_rowsTo_20b
      rw [if_neg (show ¬ nI n < nI (i + 1) from nI_nlt (by omega) (by omega))]
      by_cases c : i + 1 = n
      · rw [if_pos (show nI n ≤ nI (i + 1) from nI_le (by omega) (by omega))]
        exact step _ (fun _ => true) ev_bits.symm (fun t => ⟨fun _ => Or.inl c, fun _ => rfl⟩)
      · rw [if_neg (show ¬ nI n ≤ nI (i + 1) from nI_ge (by omega) (by omega)), k1.2.1]
        exact step _ (frB B p) rfl (fun t => ⟨fun z => Or.inr z, fun z => z.resolve_left c⟩)
    · rintro ⟨w, h2⟩ ⟨e, k1, hA, hI⟩
      dsimp only at e k1 hA hI ⊢
      subst e
      unfold fW_rowsTo_20b
      rw [if_pos (show nI n < nI (n + 1) from nI_lt (by omega) (by omega))]
      exact ⟨_, rfl, hA, hI⟩
  obtain ⟨x, m1, m2, m3⟩ := main
  rw [m1]
  simp only [Option.bind_some, if_neg (oob_n hto (by omega)), cl_n (show to < 2 ^ 31 by omega), m3 to hto]
  exact ⟨x, rfl, m2⟩
