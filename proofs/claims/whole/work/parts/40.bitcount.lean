/-! how many bits are set -/
def ofD (k : Nat) : List Nat → Nat
  | [] => 0
  | d :: ds => 2 ^ k * ofD k ds + d
theorem ofD_and (k : Nat) : ∀ (ds ms : List Nat), (∀ d, d ∈ ds → d < 2 ^ k) → (∀ m, m ∈ ms → m < 2 ^ k) → ofD k ds &&& ofD k ms = ofD k (List.zipWith (fun a b => a &&& b) ds ms)
  | [], _, _, _ => Nat.zero_and _
  | _ :: _, [], _, _ => Nat.and_zero _
  | d :: ds, m :: ms, h1, h2 => by
    have hd := h1 d (List.mem_cons_self ..)
    have hm := h2 m (List.mem_cons_self ..)
    have hdm : d &&& m < 2 ^ k := Nat.lt_of_le_of_lt Nat.and_le_left hd
    have ih := ofD_and k ds ms (fun x hx => h1 x (List.mem_cons_of_mem _ hx)) (fun x hx => h2 x (List.mem_cons_of_mem _ hx))
    show (2 ^ k * ofD k ds + d) &&& (2 ^ k * ofD k ms + m) = 2 ^ k * ofD k (List.zipWith (fun a b => a &&& b) ds ms) + (d &&& m)
    rw [← ih]
    apply Nat.eq_of_testBit_eq
    intro j
    rw [Nat.testBit_and, Nat.testBit_two_pow_mul_add _ hd, Nat.testBit_two_pow_mul_add _ hm, Nat.testBit_two_pow_mul_add _ hdm]
    by_cases h : j < k
    · simp only [h, if_true, Nat.testBit_and]
    · simp only [h, if_false, Nat.testBit_and]
theorem ofD_div (k d : Nat) (ds : List Nat) (h : d < 2 ^ k) : ofD k (d :: ds) / 2 ^ k = ofD k ds := by
  show (2 ^ k * ofD k ds + d) / 2 ^ k = _
  rw [Nat.mul_add_div (Nat.two_pow_pos k), Nat.div_eq_of_lt h, Nat.add_zero]
def digs : Nat → Nat → List Nat
  | 0, _ => []
  | k + 1, n => n % 2 :: digs k (n / 2)
theorem ofD_digs : ∀ (k n : Nat), n < 2 ^ k → ofD 1 (digs k n) = n
  | 0, n, h => by have : n = 0 := by simp at h; exact h
                  subst this; rfl
  | k + 1, n, h => by
    show 2 ^ 1 * ofD 1 (digs k (n / 2)) + n % 2 = n
    rw [ofD_digs k (n / 2) (by rw [Nat.pow_succ] at h; omega)]
    omega
theorem ush_tb {k : Nat} (hk : k < 32) (x : Int32) : (rb_ushr x (nI k)).toBitVec = x.toBitVec >>> k := by
  apply BitVec.eq_of_getLsbD_eq
  intro i hi
  have := b_ushr k hk x i
  unfold bt at this
  rw [BitVec.getLsbD_ushiftRight]
  exact this
/-- the bits of an int, as numbers -/
def bn (x : Int32) (i : Nat) : Nat := if bt x i = true then 1 else 0
theorem bn_le (x : Int32) (i : Nat) : bn x i ≤ 1 := by unfold bn; split <;> omega
theorem digs_bn (n : Nat) : ∀ (k : Nat), digs k n = (List.range k).map fun i => n / 2 ^ i % 2 := by
  intro k
  induction k generalizing n with
  | zero => rfl
  | succ k ih =>
    show n % 2 :: digs k (n / 2) = _
    rw [ih, List.range_succ_eq_map, List.map_cons, List.map_map]
    simp only [Nat.pow_zero, Nat.div_one]
    congr 1
    apply List.map_congr_left
    intro i _
    show n / 2 / 2 ^ i % 2 = n / 2 ^ (i + 1) % 2
    rw [Nat.div_div_eq_div_mul, Nat.pow_succ, Nat.mul_comm]
theorem bn_dig (x : Int32) (i : Nat) : x.toBitVec.toNat / 2 ^ i % 2 = bn x i := by
  unfold bn bt BitVec.getLsbD
  rw [Nat.testBit_eq_decide_div_mod_eq]
  by_cases h : x.toBitVec.toNat / 2 ^ i % 2 = 1
  · simp [h]
  · simp [h]; omega
theorem toNat_bn (x : Int32) : x.toBitVec.toNat = ofD 1 ((List.range 32).map (bn x)) := by
  rw [← ofD_digs 32 x.toBitVec.toNat x.toBitVec.isLt, digs_bn]
  congr 1
  apply List.map_congr_left
  intro i _
  exact bn_dig x i
theorem fld {k d : Nat} (h : d < 2 ^ k) : d &&& (2 ^ k - 1) = d := by rw [Nat.and_two_pow_sub_one_eq_mod, Nat.mod_eq_of_lt h]
section
variable (b : Nat → Nat)
theorem bc_A (hb : ∀ i, b i ≤ 1) : ofD 1 [b 0, b 1, b 2, b 3, b 4, b 5, b 6, b 7, b 8, b 9, b 10, b 11, b 12, b 13, b 14, b 15, b 16, b 17, b 18, b 19, b 20, b 21, b 22, b 23, b 24, b 25, b 26, b 27, b 28, b 29, b 30, b 31] - (ofD 1 [b 0, b 1, b 2, b 3, b 4, b 5, b 6, b 7, b 8, b 9, b 10, b 11, b 12, b 13, b 14, b 15, b 16, b 17, b 18, b 19, b 20, b 21, b 22, b 23, b 24, b 25, b 26, b 27, b 28, b 29, b 30, b 31] / 2 &&& 1431655765) = ofD 2 [(b 0 + b 1), (b 2 + b 3), (b 4 + b 5), (b 6 + b 7), (b 8 + b 9), (b 10 + b 11), (b 12 + b 13), (b 14 + b 15), (b 16 + b 17), (b 18 + b 19), (b 20 + b 21), (b 22 + b 23), (b 24 + b 25), (b 26 + b 27), (b 28 + b 29), (b 30 + b 31)] := by
  have e : ofD 1 [b 0, b 1, b 2, b 3, b 4, b 5, b 6, b 7, b 8, b 9, b 10, b 11, b 12, b 13, b 14, b 15, b 16, b 17, b 18, b 19, b 20, b 21, b 22, b 23, b 24, b 25, b 26, b 27, b 28, b 29, b 30, b 31] / 2 = ofD 1 [b 1, b 2, b 3, b 4, b 5, b 6, b 7, b 8, b 9, b 10, b 11, b 12, b 13, b 14, b 15, b 16, b 17, b 18, b 19, b 20, b 21, b 22, b 23, b 24, b 25, b 26, b 27, b 28, b 29, b 30, b 31] := ofD_div 1 (b 0) _ (by have := hb 0; omega)
  have f1 : ∀ i, b i &&& 1 = b i := fun i => fld (k := 1) (by have := hb i; omega)
  rw [e, show 1431655765 = ofD 1 [1, 0, 1, 0, 1, 0, 1, 0, 1, 0, 1, 0, 1, 0, 1, 0, 1, 0, 1, 0, 1, 0, 1, 0, 1, 0, 1, 0, 1, 0, 1] from rfl, ofD_and 1 _ _ (fun d hd => by
    simp only [List.mem_cons, List.not_mem_nil, or_false] at hd
    have : ∃ i, d = b i := by rcases hd with h | h | h | h | h | h | h | h | h | h | h | h | h | h | h | h | h | h | h | h | h | h | h | h | h | h | h | h | h | h | h <;> exact ⟨_, h⟩
    obtain ⟨i, rfl⟩ := this
    have := hb i; omega) (fun d hd => by
    simp only [List.mem_cons, List.not_mem_nil, or_false] at hd
    omega)]
  simp only [List.zipWith_cons_cons, List.zipWith_nil_left, f1, Nat.and_zero]
  simp only [ofD]
  omega
end
section
variable (s : Nat → Nat)
theorem bc_B (hs : ∀ i, s i ≤ 2) : (ofD 2 [s 0, s 1, s 2, s 3, s 4, s 5, s 6, s 7, s 8, s 9, s 10, s 11, s 12, s 13, s 14, s 15] &&& 858993459) + (ofD 2 [s 0, s 1, s 2, s 3, s 4, s 5, s 6, s 7, s 8, s 9, s 10, s 11, s 12, s 13, s 14, s 15] / 4 &&& 858993459) = ofD 4 [(s 0 + s 1), (s 2 + s 3), (s 4 + s 5), (s 6 + s 7), (s 8 + s 9), (s 10 + s 11), (s 12 + s 13), (s 14 + s 15)] := by
  have e : ofD 2 [s 0, s 1, s 2, s 3, s 4, s 5, s 6, s 7, s 8, s 9, s 10, s 11, s 12, s 13, s 14, s 15] / 4 = ofD 2 [s 1, s 2, s 3, s 4, s 5, s 6, s 7, s 8, s 9, s 10, s 11, s 12, s 13, s 14, s 15] := ofD_div 2 (s 0) _ (by have := hs 0; omega)
  have f1 : ∀ i, s i &&& 3 = s i := fun i => fld (k := 2) (by have := hs i; omega)
  have g : ∀ n m : Nat, ∀ d, d ∈ (List.range n).map (fun i => s (i + m)) → d < 2 ^ 2 := fun n m d hd => by
    obtain ⟨i, -, rfl⟩ := List.mem_map.mp hd
    have := hs (i + m); omega
  rw [e, show ofD 2 [s 0, s 1, s 2, s 3, s 4, s 5, s 6, s 7, s 8, s 9, s 10, s 11, s 12, s 13, s 14, s 15] &&& 858993459 = ofD 2 [s 0, s 1, s 2, s 3, s 4, s 5, s 6, s 7, s 8, s 9, s 10, s 11, s 12, s 13, s 14, s 15] &&& ofD 2 [3, 0, 3, 0, 3, 0, 3, 0, 3, 0, 3, 0, 3, 0, 3, 0] from rfl, show ofD 2 [s 1, s 2, s 3, s 4, s 5, s 6, s 7, s 8, s 9, s 10, s 11, s 12, s 13, s 14, s 15] &&& 858993459 = ofD 2 [s 1, s 2, s 3, s 4, s 5, s 6, s 7, s 8, s 9, s 10, s 11, s 12, s 13, s 14, s 15] &&& ofD 2 [3, 0, 3, 0, 3, 0, 3, 0, 3, 0, 3, 0, 3, 0, 3] from rfl, ofD_and 2 [s 0, s 1, s 2, s 3, s 4, s 5, s 6, s 7, s 8, s 9, s 10, s 11, s 12, s 13, s 14, s 15] [3, 0, 3, 0, 3, 0, 3, 0, 3, 0, 3, 0, 3, 0, 3, 0] (g 16 0) (by decide), ofD_and 2 [s 1, s 2, s 3, s 4, s 5, s 6, s 7, s 8, s 9, s 10, s 11, s 12, s 13, s 14, s 15] [3, 0, 3, 0, 3, 0, 3, 0, 3, 0, 3, 0, 3, 0, 3] (g 15 1) (by decide)]
  simp only [List.zipWith_cons_cons, List.zipWith_nil_left, f1, Nat.and_zero]
  simp only [ofD]
  omega
theorem bc_C (hs : ∀ i, s i ≤ 4) : ((ofD 4 [s 0, s 1, s 2, s 3, s 4, s 5, s 6, s 7] + ofD 4 [s 0, s 1, s 2, s 3, s 4, s 5, s 6, s 7] / 16) &&& 252645135) = ofD 8 [(s 0 + s 1), (s 2 + s 3), (s 4 + s 5), (s 6 + s 7)] := by
  have e : ofD 4 [s 0, s 1, s 2, s 3, s 4, s 5, s 6, s 7] / 16 = ofD 4 [s 1, s 2, s 3, s 4, s 5, s 6, s 7] := ofD_div 4 (s 0) _ (by have := hs 0; omega)
  have f1 : ∀ i, (s i + s (i + 1)) &&& 15 = s i + s (i + 1) := fun i => fld (k := 4) (by have := hs i; have := hs (i + 1); omega)
  have a : ofD 4 [s 0, s 1, s 2, s 3, s 4, s 5, s 6, s 7] + ofD 4 [s 1, s 2, s 3, s 4, s 5, s 6, s 7] = ofD 4 [(s 0 + s 1), (s 1 + s 2), (s 2 + s 3), (s 3 + s 4), (s 4 + s 5), (s 5 + s 6), (s 6 + s 7), s 7] := by
    simp only [ofD]
    omega
  rw [e, a, show 252645135 = ofD 4 [15, 0, 15, 0, 15, 0, 15, 0] from rfl, ofD_and 4 _ _ (fun d hd => by
    simp only [List.mem_cons, List.not_mem_nil, or_false] at hd
    have h0 := hs 0; have h1 := hs 1; have h2 := hs 2; have h3 := hs 3; have h4 := hs 4; have h5 := hs 5; have h6 := hs 6; have h7 := hs 7
    omega) (by decide)]
  simp only [List.zipWith_cons_cons, List.zipWith_nil_left, show (s 0 + s 1) &&& 15 = s 0 + s 1 from f1 0, show (s 2 + s 3) &&& 15 = s 2 + s 3 from f1 2, show (s 4 + s 5) &&& 15 = s 4 + s 5 from f1 4, show (s 6 + s 7) &&& 15 = s 6 + s 7 from f1 6, Nat.and_zero]
  simp only [ofD]
  omega
theorem bc_D (hs : ∀ i, s i ≤ 8) : ((ofD 8 [s 0, s 1, s 2, s 3] + ofD 8 [s 0, s 1, s 2, s 3] / 256) + (ofD 8 [s 0, s 1, s 2, s 3] + ofD 8 [s 0, s 1, s 2, s 3] / 256) / 65536 &&& 63) = s 0 + s 1 + s 2 + s 3 := by
  have e : ofD 8 [s 0, s 1, s 2, s 3] / 256 = ofD 8 [s 1, s 2, s 3] := ofD_div 8 (s 0) _ (by have := hs 0; omega)
  have h0 := hs 0; have h1 := hs 1; have h2 := hs 2; have h3 := hs 3
  have a : ofD 8 [s 0, s 1, s 2, s 3] + ofD 8 [s 1, s 2, s 3] = ofD 8 [s 0 + s 1, s 1 + s 2, s 2 + s 3, s 3] := by
    simp only [ofD]
    omega
  have c : ofD 8 [s 0 + s 1, s 1 + s 2, s 2 + s 3, s 3] / 65536 = ofD 8 [s 2 + s 3, s 3] := by
    simp only [ofD]
    omega
  have f : ofD 8 [s 0 + s 1, s 1 + s 2, s 2 + s 3, s 3] + ofD 8 [s 2 + s 3, s 3] = ofD 8 [s 0 + s 1 + s 2 + s 3, s 1 + s 2 + s 3, s 2 + s 3, s 3] := by
    simp only [ofD]
    omega
  rw [e, a, c, f, show 63 = ofD 8 [63, 0, 0, 0] from rfl, ofD_and 8 _ _ (fun d hd => by
    simp only [List.mem_cons, List.not_mem_nil, or_false] at hd
    omega) (by decide)]
  simp only [List.zipWith_cons_cons, List.zipWith_nil_left, Nat.and_zero]
  simp only [ofD]
  have : (s 0 + s 1 + s 2 + s 3) &&& 63 = s 0 + s 1 + s 2 + s 3 := fld (k := 6) (by omega)
  omega
end
theorem i_sub {a b : Int32} (h : b.toBitVec.toNat ≤ a.toBitVec.toNat) : (a - b).toBitVec.toNat = a.toBitVec.toNat - b.toBitVec.toNat := by
  rw [Int32.toBitVec_sub]
  exact BitVec.toNat_sub_of_le h
theorem i_add {a b : Int32} (h : a.toBitVec.toNat + b.toBitVec.toNat < 2 ^ 32) : (a + b).toBitVec.toNat = a.toBitVec.toNat + b.toBitVec.toNat := by
  rw [Int32.toBitVec_add, BitVec.toNat_add, Nat.mod_eq_of_lt h]
theorem i_and (a b : Int32) : (a &&& b).toBitVec.toNat = a.toBitVec.toNat &&& b.toBitVec.toNat := by
  rw [Int32.toBitVec_and, BitVec.toNat_and]
theorem i_ush {k : Nat} (hk : k < 32) (a : Int32) : (rb_ushr a (nI k)).toBitVec.toNat = a.toBitVec.toNat / 2 ^ k := by
  rw [ush_tb hk, BitVec.toNat_ushiftRight, Nat.shiftRight_eq_div_pow]
theorem i_lit : (1431655765 : Int32).toBitVec.toNat = 1431655765 ∧ (858993459 : Int32).toBitVec.toNat = 858993459 ∧ (252645135 : Int32).toBitVec.toNat = 252645135 ∧ (63 : Int32).toBitVec.toNat = 63 := by decide +kernel
theorem bitCount_eq (x : Int32) : fJI_bitCount x = nI (fb_ct (fun i => bt x i) 32) := by
  have hb := bn_le x
  obtain ⟨l1, l2, l3, l4⟩ := i_lit
  have h0 : x.toBitVec.toNat = ofD 1 [bn x 0, bn x 1, bn x 2, bn x 3, bn x 4, bn x 5, bn x 6, bn x 7, bn x 8, bn x 9, bn x 10, bn x 11, bn x 12, bn x 13, bn x 14, bn x 15, bn x 16, bn x 17, bn x 18, bn x 19, bn x 20, bn x 21, bn x 22, bn x 23, bn x 24, bn x 25, bn x 26, bn x 27, bn x 28, bn x 29, bn x 30, bn x 31] := toNat_bn x
  unfold fJI_bitCount fJI_bitCount_0
  generalize h1 : x - (rb_ushr x (1) &&& (1431655765)) = v1
  generalize h2 : (v1 &&& (858993459)) + (rb_ushr v1 (2) &&& (858993459)) = v2
  generalize h3 : (v2 + rb_ushr v2 (4)) &&& (252645135) = v3
  have n1 : v1.toBitVec.toNat = ofD 2 [(bn x 0 + bn x 1), (bn x 2 + bn x 3), (bn x 4 + bn x 5), (bn x 6 + bn x 7), (bn x 8 + bn x 9), (bn x 10 + bn x 11), (bn x 12 + bn x 13), (bn x 14 + bn x 15), (bn x 16 + bn x 17), (bn x 18 + bn x 19), (bn x 20 + bn x 21), (bn x 22 + bn x 23), (bn x 24 + bn x 25), (bn x 26 + bn x 27), (bn x 28 + bn x 29), (bn x 30 + bn x 31)] := by
    have y : (rb_ushr x 1 &&& 1431655765).toBitVec.toNat = (x.toBitVec.toNat / 2 &&& 1431655765) := by
      rw [i_and, l1]
      exact congrArg (· &&& 1431655765) (i_ush (k := 1) (by omega) x)
    rw [← h1, i_sub, y, h0]
    · exact bc_A (bn x) hb
    · rw [y]
      exact Nat.le_trans Nat.and_le_left (Nat.div_le_self _ _)
  have n2 : v2.toBitVec.toNat = ofD 4 [((bn x 0 + bn x 1) + (bn x 2 + bn x 3)), ((bn x 4 + bn x 5) + (bn x 6 + bn x 7)), ((bn x 8 + bn x 9) + (bn x 10 + bn x 11)), ((bn x 12 + bn x 13) + (bn x 14 + bn x 15)), ((bn x 16 + bn x 17) + (bn x 18 + bn x 19)), ((bn x 20 + bn x 21) + (bn x 22 + bn x 23)), ((bn x 24 + bn x 25) + (bn x 26 + bn x 27)), ((bn x 28 + bn x 29) + (bn x 30 + bn x 31))] := by
    have key := bc_B (fun j => bn x (2 * j) + bn x (2 * j + 1)) (fun j => by have := hb (2 * j); have := hb (2 * j + 1); omega)
    have y : (rb_ushr v1 2 &&& 858993459).toBitVec.toNat = (v1.toBitVec.toNat / 4 &&& 858993459) := by
      rw [i_and, l2]
      exact congrArg (· &&& 858993459) (i_ush (k := 2) (by omega) v1)
    have z : (v1 &&& 858993459).toBitVec.toNat + (rb_ushr v1 2 &&& 858993459).toBitVec.toNat = ofD 4 [((bn x 0 + bn x 1) + (bn x 2 + bn x 3)), ((bn x 4 + bn x 5) + (bn x 6 + bn x 7)), ((bn x 8 + bn x 9) + (bn x 10 + bn x 11)), ((bn x 12 + bn x 13) + (bn x 14 + bn x 15)), ((bn x 16 + bn x 17) + (bn x 18 + bn x 19)), ((bn x 20 + bn x 21) + (bn x 22 + bn x 23)), ((bn x 24 + bn x 25) + (bn x 26 + bn x 27)), ((bn x 28 + bn x 29) + (bn x 30 + bn x 31))] := by
      rw [y, i_and, l2, n1]
      exact key
    rw [← h2, i_add, z]
    rw [z]
    simp only [ofD]
    have q : ∀ i, bn x i ≤ 1 := hb
    have := q 0; have := q 1; have := q 2; have := q 3; have := q 4; have := q 5; have := q 6; have := q 7; have := q 8; have := q 9; have := q 10; have := q 11; have := q 12; have := q 13; have := q 14; have := q 15; have := q 16; have := q 17; have := q 18; have := q 19; have := q 20; have := q 21; have := q 22; have := q 23; have := q 24; have := q 25; have := q 26; have := q 27; have := q 28; have := q 29; have := q 30; have := q 31
    omega
  have n3 : v3.toBitVec.toNat = ofD 8 [(((bn x 0 + bn x 1) + (bn x 2 + bn x 3)) + ((bn x 4 + bn x 5) + (bn x 6 + bn x 7))), (((bn x 8 + bn x 9) + (bn x 10 + bn x 11)) + ((bn x 12 + bn x 13) + (bn x 14 + bn x 15))), (((bn x 16 + bn x 17) + (bn x 18 + bn x 19)) + ((bn x 20 + bn x 21) + (bn x 22 + bn x 23))), (((bn x 24 + bn x 25) + (bn x 26 + bn x 27)) + ((bn x 28 + bn x 29) + (bn x 30 + bn x 31)))] := by
    have key := bc_C (fun j => (bn x (4 * j) + bn x (4 * j + 1)) + (bn x (4 * j + 2) + bn x (4 * j + 3))) (fun j => by have := hb (4 * j); have := hb (4 * j + 1); have := hb (4 * j + 2); have := hb (4 * j + 3); omega)
    have y : (rb_ushr v2 4).toBitVec.toNat = v2.toBitVec.toNat / 16 := i_ush (k := 4) (by omega) v2
    rw [← h3, i_and, l3, i_add, y, n2]
    · exact key
    · rw [y, n2]
      simp only [ofD]
      have := hb 0; have := hb 1; have := hb 2; have := hb 3; have := hb 4; have := hb 5; have := hb 6; have := hb 7; have := hb 8; have := hb 9; have := hb 10; have := hb 11; have := hb 12; have := hb 13; have := hb 14; have := hb 15; have := hb 16; have := hb 17; have := hb 18; have := hb 19; have := hb 20; have := hb 21; have := hb 22; have := hb 23; have := hb 24; have := hb 25; have := hb 26; have := hb 27; have := hb 28; have := hb 29; have := hb 30; have := hb 31
      omega
  have key := bc_D (fun j => ((bn x (8 * j) + bn x (8 * j + 1)) + (bn x (8 * j + 2) + bn x (8 * j + 3))) + ((bn x (8 * j + 4) + bn x (8 * j + 5)) + (bn x (8 * j + 6) + bn x (8 * j + 7)))) (fun j => by have := hb (8 * j); have := hb (8 * j + 1); have := hb (8 * j + 2); have := hb (8 * j + 3); have := hb (8 * j + 4); have := hb (8 * j + 5); have := hb (8 * j + 6); have := hb (8 * j + 7); omega)
  have y : (rb_ushr v3 8).toBitVec.toNat = v3.toBitVec.toNat / 256 := i_ush (k := 8) (by omega) v3
  have b3 : v3.toBitVec.toNat < 2 ^ 28 := by
    rw [n3]
    simp only [ofD]
    have := hb 0; have := hb 1; have := hb 2; have := hb 3; have := hb 4; have := hb 5; have := hb 6; have := hb 7; have := hb 8; have := hb 9; have := hb 10; have := hb 11; have := hb 12; have := hb 13; have := hb 14; have := hb 15; have := hb 16; have := hb 17; have := hb 18; have := hb 19; have := hb 20; have := hb 21; have := hb 22; have := hb 23; have := hb 24; have := hb 25; have := hb 26; have := hb 27; have := hb 28; have := hb 29; have := hb 30; have := hb 31
    omega
  have n4 : (v3 + rb_ushr v3 8).toBitVec.toNat = v3.toBitVec.toNat + v3.toBitVec.toNat / 256 := by
    rw [i_add, y]
    rw [y]
    omega
  have y2 : (rb_ushr (v3 + rb_ushr v3 8) 16).toBitVec.toNat = (v3 + rb_ushr v3 8).toBitVec.toNat / 65536 := i_ush (k := 16) (by omega) _
  apply Int32.toBitVec_inj.mp
  apply BitVec.eq_of_toNat_eq
  have ct : fb_ct (fun i => bt x i) 32 = (((bn x 0 + bn x 1) + (bn x 2 + bn x 3)) + ((bn x 4 + bn x 5) + (bn x 6 + bn x 7))) + (((bn x 8 + bn x 9) + (bn x 10 + bn x 11)) + ((bn x 12 + bn x 13) + (bn x 14 + bn x 15))) + (((bn x 16 + bn x 17) + (bn x 18 + bn x 19)) + ((bn x 20 + bn x 21) + (bn x 22 + bn x 23))) + (((bn x 24 + bn x 25) + (bn x 26 + bn x 27)) + ((bn x 28 + bn x 29) + (bn x 30 + bn x 31))) := by
    unfold bn
    simp only [fb_ct]
    omega
  have cle : fb_ct (fun i => bt x i) 32 ≤ 32 := fb_ct_le _ _
  have rhs : (nI (fb_ct (fun i => bt x i) 32)).toBitVec.toNat = fb_ct (fun i => bt x i) 32 := by
    show (BitVec.ofNat 32 _).toNat = _
    rw [BitVec.toNat_ofNat, Nat.mod_eq_of_lt (by omega)]
  rw [rhs, i_and, l4, i_add, y2, n4, n3, ct]
  · exact key
  · rw [y2, n4]
    omega
