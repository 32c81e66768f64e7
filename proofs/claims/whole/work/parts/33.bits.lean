/-! bits: the rows up to b_sshr are the kit's (laws/BITS.to-paste) -/
def bt (x : Int32) (i : Nat) : Bool := x.toBitVec.getLsbD i
theorem b_ext {x y : Int32} (h : ∀ i, i < 32 → bt x i = bt y i) : x = y := Int32.toBitVec_inj.mp (BitVec.eq_of_getLsbD_eq (fun i hi => h i hi))
theorem b_or (x y : Int32) (i : Nat) : bt (x ||| y) i = (bt x i || bt y i) := by unfold bt; rw [Int32.toBitVec_or, BitVec.getLsbD_or]
theorem b_and (x y : Int32) (i : Nat) : bt (x &&& y) i = (bt x i && bt y i) := by unfold bt; rw [Int32.toBitVec_and, BitVec.getLsbD_and]
theorem b_xor (x y : Int32) (i : Nat) : bt (x ^^^ y) i = (bt x i ^^ bt y i) := by unfold bt; rw [Int32.toBitVec_xor, BitVec.getLsbD_xor]
theorem b_big {x : Int32} {i : Nat} (h : 32 ≤ i) : bt x i = false := BitVec.getLsbD_of_ge _ _ h
theorem b_255 (i : Nat) : bt 255 i = decide (i < 8) := by
  rcases Nat.lt_or_ge i 32 with h | h
  · exact (by decide +kernel : ∀ i, i < 32 → bt 255 i = decide (i < 8)) i h
  · rw [b_big h, decide_eq_false (by omega)]
theorem b_65535 (i : Nat) : bt 65535 i = decide (i < 16) := by
  rcases Nat.lt_or_ge i 32 with h | h
  · exact (by decide +kernel : ∀ i, i < 32 → bt 65535 i = decide (i < 16)) i h
  · rw [b_big h, decide_eq_false (by omega)]
theorem b_m1 : ∀ i, i < 32 → bt (-1) i = true := by decide +kernel
theorem b_0 (i : Nat) : bt 0 i = false := BitVec.getLsbD_zero
theorem s_l : ∀ n, n < 32 → ((nI n &&& 31).toBitVec.smod 32).toNat = n := by decide +kernel
theorem s_u : ∀ n, n < 32 → (((nI n).toUInt32 &&& Int32.toUInt32 31).toBitVec % 32).toNat = n := by decide +kernel
theorem b_shl (n : Nat) (hn : n < 32) (x : Int32) {i : Nat} (hi : i < 32) : bt (x <<< (nI n &&& 31)) i = (decide (n ≤ i) && bt x (i - n)) := by
  unfold bt
  rw [Int32.toBitVec_shiftLeft]
  show (x.toBitVec <<< ((nI n &&& 31).toBitVec.smod 32).toNat).getLsbD i = _
  rw [s_l n hn, BitVec.getLsbD_shiftLeft]
  rcases Nat.lt_or_ge i n with h | h
  · simp [h, Nat.not_le.mpr h]
  · simp [hi, h, Nat.not_lt.mpr h]
theorem b_ushr (n : Nat) (hn : n < 32) (x : Int32) (i : Nat) : bt ((x.toUInt32 >>> ((nI n).toUInt32 &&& Int32.toUInt32 31)).toInt32) i = bt x (n + i) := by
  show (x.toUInt32 >>> ((nI n).toUInt32 &&& Int32.toUInt32 31)).toBitVec.getLsbD i = x.toUInt32.toBitVec.getLsbD (n + i)
  rw [UInt32.toBitVec_shiftRight]
  show (x.toUInt32.toBitVec >>> (((nI n).toUInt32 &&& Int32.toUInt32 31).toBitVec % 32).toNat).getLsbD i = _
  rw [s_u n hn, BitVec.getLsbD_ushiftRight]
theorem b_sshr (n : Nat) (hn : n < 32) (x : Int32) {i : Nat} (hi : i < 32) : bt (x >>> (nI n &&& 31)) i = if n + i < 32 then bt x (n + i) else bt x 31 := by
  unfold bt
  rw [Int32.toBitVec_shiftRight]
  show (x.toBitVec.sshiftRight ((nI n &&& 31).toBitVec.smod 32).toNat).getLsbD i = _
  rw [s_l n hn, BitVec.getLsbD_sshiftRight, BitVec.msb_eq_getLsbD_last]
  simp [hi]

theorem holds_bt (x : Int32) {i : Nat} (hi : i < 32) : fB_holds x (nI i) = bt x i := by
  unfold fB_holds fB_holds_0
  rw [if_neg (nI_pos (by omega)), if_neg (by show ¬ nI 32 ≤ nI i; exact nI_ge hi (by omega))]
  have hu : rb_ushr x (nI i) = (x.toUInt32 >>> ((nI i).toUInt32 &&& Int32.toUInt32 31)).toInt32 := rfl
  have key : ((rb_ushr x (nI i)) &&& (1 : Int32) = 0) ↔ bt x i = false := by
    constructor
    · intro h
      have := congrArg (fun z => bt z 0) h
      rw [b_and, hu, b_ushr i hi, b_0] at this
      rw [show bt 1 0 = true by decide, Bool.and_true] at this
      exact this
    · intro h
      apply b_ext
      intro j hj
      rw [b_and, hu, b_ushr i hi, b_0]
      by_cases e : j = 0
      · subst e
        rw [Nat.add_zero, h, Bool.false_and]
      · have : ∀ j, j < 32 → j ≠ 0 → bt 1 j = false := by decide +kernel
        rw [this j hj e, Bool.and_false]
  by_cases hb : bt x i = true
  · rw [if_neg (fun z => by rw [key.mp z] at hb; cases hb), hb]
  · have hb : bt x i = false := by cases h : bt x i <;> simp_all
    rw [if_pos (key.mpr hb), hb]
theorem has_bt (x : Int32) {i : Nat} (hi : i < 32) : fM_has x (nI i) = bt x i := by
  unfold fM_has fM_has_0
  have hu : rb_shr x (nI i) = x >>> (nI i &&& 31) := rfl
  have b0 : bt (rb_shr x (nI i)) 0 = bt x i := by
    rw [hu, b_sshr i hi x (by omega)]
    simp [hi]
  have key : (rb_shr x (nI i) &&& (1 : Int32) = 1) ↔ bt x i = true := by
    constructor
    · intro h
      have := congrArg (fun z => bt z 0) h
      rw [b_and, b0, show bt 1 0 = true by decide, Bool.and_true] at this
      exact this
    · intro h
      apply b_ext
      intro j hj
      rw [b_and]
      by_cases e : j = 0
      · subst e
        rw [b0, h, show bt 1 0 = true by decide]; rfl
      · have : ∀ j, j < 32 → j ≠ 0 → bt 1 j = false := by decide +kernel
        rw [this j hj e, Bool.and_false]
  by_cases hb : bt x i = true
  · rw [if_pos (key.mpr hb), hb]
  · rw [if_neg (fun z => hb (key.mp z))]
    cases h : bt x i <;> simp_all
theorem shl1_bt {n : Nat} (hn : n < 32) {i : Nat} (hi : i < 32) : bt (rb_shl 1 (nI n)) i = decide (i = n) := by
  have : rb_shl 1 (nI n) = 1 <<< (nI n &&& 31) := rfl
  rw [this, b_shl n hn 1 hi]
  have one : ∀ j, j < 32 → bt 1 j = decide (j = 0) := by decide +kernel
  by_cases h : n ≤ i
  · rw [one (i - n) (by omega)]
    by_cases e : i = n
    · subst e; simp
    · simp [h, e]; omega
  · have : i ≠ n := by omega
    simp [h, this]
def fo {α : Type} (f : Nat → α → α) : Nat → α → α
  | 0, a => a
  | n + 1, a => f n (fo f n a)
theorem fo_congr {α : Type} {f g : Nat → α → α} : ∀ {n : Nat} {a : α}, (∀ i, i < n → ∀ a, f i a = g i a) → fo f n a = fo g n a
  | 0, _, _ => rfl
  | n + 1, a, h => by
    show f n (fo f n a) = g n (fo g n a)
    rw [fo_congr (n := n) (fun i hi => h i (by omega)), h n (Nat.lt_succ_self n)]
/-- bits of those below n of which p holds -/
def bits (p : Nat → Bool) (n : Nat) : Int32 := fo (fun i a => a ||| (if p i then rb_shl 1 (nI i) else 0)) n 0
theorem bits_bt (p : Nat → Bool) : ∀ (n : Nat), n ≤ 32 → ∀ i, i < 32 → bt (bits p n) i = (decide (i < n) && p i)
  | 0, _, i, _ => by show bt 0 i = _; rw [b_0]; simp
  | n + 1, hn, i, hi => by
    show bt (bits p n ||| (if p n then rb_shl 1 (nI n) else 0)) i = _
    rw [b_or, bits_bt p n (by omega) i hi]
    by_cases e : i = n
    · subst e
      by_cases hp : p i = true
      · rw [if_pos hp, shl1_bt (by omega) hi, hp]; simp
      · have hp : p i = false := by cases h : p i <;> simp_all
        rw [if_neg (by rw [hp]; decide), b_0, hp]; simp
    · have h1 : bt (if p n = true then rb_shl 1 (nI n) else 0) i = false := by
        by_cases hp : p n = true
        · rw [if_pos hp, shl1_bt (by omega) hi]; simp [e]
        · rw [if_neg hp, b_0]
      rw [h1, Bool.or_false]
      by_cases h2 : i < n
      · simp [h2, Nat.lt_succ_of_lt h2]
      · have : ¬ i < n + 1 := by omega
        simp [h2, this]
theorem bits_congr {p q : Nat → Bool} {n : Nat} (h : ∀ i, i < n → p i = q i) : bits p n = bits q n := fo_congr (fun i hi a => by rw [h i hi])
/-- an int is known by its bits -/
theorem bits_of {x : Int32} {n : Nat} (hn : n ≤ 32) {p : Nat → Bool} (h : ∀ i, i < 32 → bt x i = (decide (i < n) && p i)) : x = bits p n := b_ext (fun i hi => by rw [h i hi, bits_bt p n hn i hi])
