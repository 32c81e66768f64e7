/-! how many bits are set -/
def ofD (k : Nat) : List Nat → Nat
  | [] => 0
  | d :: ds => 2 ^ k * ofD k ds + d
theorem ofD_and (k : Nat) : ∀ (ds ms : List Nat), (∀ d, d ∈ ds → d < 2 ^ k) → (∀ m, m ∈ ms → m < 2 ^ k) → ofD k ds &&& ofD k ms = ofD k (List.zipWith (fun a b => a &&& b) ds ms)
  | [], _, _, _ => Nat.zero_and _
  | _ :: _, [], _, _ => Nat.and_zero _
  | d :: ds, m :: ms, h1, h2 => by
    have hd := h1 d (List.mem_cons_self ..)
    have hm := h2 m (List.mem_cons_self ..)
    have hdm : d &&& m < 2 ^ k := Nat.lt_of_le_of_lt Nat.and_le_left hd
    have ih := ofD_and k ds ms (fun x hx => h1 x (List.mem_cons_of_mem _ hx)) (fun x hx => h2 x (List.mem_cons_of_mem _ hx))
    show (2 ^ k * ofD k ds + d) &&& (2 ^ k * ofD k ms + m) = 2 ^ k * ofD k (List.zipWith (fun a b => a &&& b) ds ms) + (d &&& m)
    rw [← ih]
    apply Nat.eq_of_testBit_eq
    intro j
    rw [Nat.testBit_and, Nat.testBit_two_pow_mul_add _ hd, Nat.testBit_two_pow_mul_add _ hm, Nat.testBit_two_pow_mul_add _ hdm]
    by_cases h : j < k
    · simp only [h, if_true, Nat.testBit_and]
    · simp only [h, if_false, Nat.testBit_and]
theorem ofD_div (k d : Nat) (ds : List Nat) (h : d < 2 ^ k) : ofD k (d :: ds) / 2 ^ k = ofD k ds := by
  show (2 ^ k * ofD k ds + d) / 2 ^ k = _
  rw [Nat.mul_add_div (Nat.two_pow_pos k), Nat.div_eq_of_lt h, Nat.add_zero]
def digs : Nat → Nat → List Nat
  | 0, _ => []
  | k + 1, n => n % 2 :: digs k (n / 2)
theorem ofD_digs : ∀ (k n : Nat), n < 2 ^ k → ofD 1 (digs k n) = n
  | 0, n, h => by have : n = 0 := by simp at h; exact h
                  subst this; rfl
  | k + 1, n, h => by
    show 2 ^ 1 * ofD 1 (digs k (n / 2)) + n % 2 = n
    rw [ofD_digs k (n / 2) (by rw [Nat.pow_succ] at h; omega)]
    omega
theorem ush_tb {k : Nat} (hk : k < 32) (x : Int32) : (rb_ushr x (nI k)).toBitVec = x.toBitVec >>> k := by
  apply BitVec.eq_of_getLsbD_eq
  intro i hi
  have := b_ushr k hk x i
  unfold bt at this
  rw [BitVec.getLsbD_ushiftRight]
  exact this
/-- the bits of an int, as numbers -/
def bn (x : Int32) (i : Nat) : Nat := if bt x i = true then 1 else 0
theorem bn_le (x : Int32) (i : Nat) : bn x i ≤ 1 := by unfold bn; split <;> omega
theorem digs_bn (n : Nat) : ∀ (k : Nat), digs k n = (List.range k).map fun i => n / 2 ^ i % 2 := by
  intro k
  induction k generalizing n with
  | zero => rfl
  | succ k ih =>
    show n % 2 :: digs k (n / 2) = _
    rw [ih, List.range_succ_eq_map, List.map_cons, List.map_map]
    simp only [Nat.pow_zero, Nat.div_one]
    congr 1
    apply List.map_congr_left
    intro i _
    show n / 2 / 2 ^ i % 2 = n / 2 ^ (i + 1) % 2
    rw [Nat.div_div_eq_div_mul, Nat.pow_succ, Nat.mul_comm]
theorem bn_dig (x : Int32) (i : Nat) : x.toBitVec.toNat / 2 ^ i % 2 = bn x i := by
  unfold bn bt BitVec.getLsbD
  rw [Nat.testBit_eq_decide_div_mod_eq]
  by_cases h : x.toBitVec.toNat / 2 ^ i % 2 = 1
  · simp [h]
  · simp [h]; omega
theorem toNat_bn (x : Int32) : x.toBitVec.toNat = ofD 1 ((List.range 32).map (bn x)) := by
  rw [← ofD_digs 32 x.toBitVec.toNat x.toBitVec.isLt, digs_bn]
  congr 1
  apply List.map_congr_left
  intro i _
  have := ofD_digs 32 x.toBitVec.toNat x.toBitVec.isLt
  rw [digs_bn] at this
  rw [this]
  exact bn_dig x i
