/-! odds -/
theorem lI_n : ∀ n, n < 12 → (nI n).toInt64 = lN n := by decide +kernel
def cho : Nat → Nat → Nat
  | _, 0 => 1
  | 0, _ + 1 => 0
  | n + 1, k + 1 => cho n k + cho n (k + 1)
theorem cho_0 : ∀ n, cho n 0 = 1
  | 0 => rfl
  | _ + 1 => rfl
theorem cho_top : ∀ n k, n < k → cho n k = 0
  | 0, _ + 1, _ => rfl
  | n + 1, k + 1, h => by
    show cho n k + cho n (k + 1) = 0
    rw [cho_top n k (by omega), cho_top n (k + 1) (by omega)]
theorem cho_next : ∀ m, m < 9 → ∀ j, j < 9 → j ≤ m → lN (cho m j) * lN (m - j) / lN (j + 1) = lN (cho m (j + 1)) := by decide +kernel
theorem sm_head (f : Nat → Nat) : ∀ n, fb_sm f (n + 1) = f 0 + fb_sm (fun k => f (k + 1)) n
  | 0 => by show 0 + f 0 = f 0 + 0; omega
  | n + 1 => by
    rw [fb_sm_succ, sm_head f n, fb_sm_succ]
    omega
/-- by how many are out of place -/
theorem sm_cho : ∀ (m : Nat) (G : Nat → Nat), fb_sm (fun j => cho (m + 1) j * G j) (m + 2) = fb_sm (fun j => cho m j * G j) (m + 1) + fb_sm (fun j => cho m j * G (j + 1)) (m + 1) := by
  intro m G
  rw [sm_head]
  have e : ∀ k, k < m + 1 → cho (m + 1) (k + 1) * G (k + 1) = cho m k * G (k + 1) + cho m (k + 1) * G (k + 1) := fun k _ => by
    show (cho m k + cho m (k + 1)) * G (k + 1) = _
    rw [Nat.add_mul]
  rw [fb_sm_cong e, fb_sm_add]
  have h2 : fb_sm (fun j => cho m j * G j) (m + 2) = fb_sm (fun j => cho m j * G j) (m + 1) := by
    rw [fb_sm_succ, cho_top m (m + 1) (by omega), Nat.zero_mul, Nat.add_zero]
  have h3 := sm_head (fun j => cho m j * G j) (m + 1)
  rw [h2] at h3
  have h0 : cho (m + 1) 0 * G 0 = cho m 0 * G 0 := by rw [cho_0, cho_0]
  omega
def pcN (b m : Nat) : Nat := fb_ct (fun i => b.testBit i) m
theorem pc_two : ∀ m, m < 8 → ∀ b, b < 2 ^ m → pcN (2 ^ m + b) (m + 1) = pcN b m + 1 ∧ pcN b (m + 1) = pcN b m := by decide +kernel
theorem sm_pc : ∀ (m : Nat), m ≤ 8 → ∀ G : Nat → Nat, fb_sm (fun b => G (pcN b m)) (2 ^ m) = fb_sm (fun j => cho m j * G j) (m + 1)
  | 0, _, G => by
    show 0 + G 0 = 0 + cho 0 0 * G 0
    rw [cho_0]; omega
  | m + 1, h, G => by
    rw [sm_cho, ← sm_pc m (by omega) G, ← sm_pc m (by omega) (fun j => G (j + 1)), show 2 ^ (m + 1) = 2 ^ m + 2 ^ m by rw [Nat.pow_succ]; omega, fb_sm_split]
    congr 1
    · exact fb_sm_cong (fun k hk => by rw [(pc_two m (by omega) k hk).2])
    · exact fb_sm_cong (fun k hk => by rw [(pc_two m (by omega) k hk).1])
theorem pc_n {b m : Nat} (hm : m ≤ 32) (hb : b < 2 ^ m) : fJI_bitCount (nI b) = nI (pcN b m) := by
  have hbt : ∀ i, i < 32 → bt (nI b) i = b.testBit i := fun i hi => by
    show (BitVec.ofNat 32 b).getLsbD i = _
    rw [BitVec.getLsbD_ofNat, decide_eq_true hi, Bool.true_and]
  rw [bitCount_eq, fb_ct_cong hbt]
  congr 1
  have := fb_ct_split (fun i => b.testBit i) m (32 - m)
  rw [show m + (32 - m) = 32 by omega] at this
  rw [this]
  have z : fb_ct (fun k => b.testBit (m + k)) (32 - m) = 0 := fb_ct_zero.mpr (fun k _ => Nat.testBit_lt_two_pow (Nat.lt_of_lt_of_le hb (Nat.pow_le_pow_right (by omega) (by omega))))
  rw [z]; rfl
/-- the product over the pieces -/
def opr (p b : Nat) : Nat → Nat
  | 0 => 1
  | k + 1 => opr p b k * (if b.testBit k then 10 - p else p)
theorem opr_is (p b : Nat) : ∀ k, opr p b k = (10 - p) ^ pcN b k * p ^ (k - pcN b k)
  | 0 => rfl
  | k + 1 => by
    have hle : pcN b k ≤ k := fb_ct_le _ _
    show opr p b k * _ = _
    rw [opr_is p b k]
    show _ = (10 - p) ^ (pcN b k + if b.testBit k = true then 1 else 0) * p ^ (k + 1 - (pcN b k + if b.testBit k = true then 1 else 0))
    cases b.testBit k
    · rw [if_neg (by decide), if_neg (by decide), Nat.add_zero, show k + 1 - pcN b k = (k - pcN b k) + 1 by omega, Nat.pow_succ, Nat.mul_assoc]
    · rw [if_pos rfl, if_pos rfl, show k + 1 - (pcN b k + 1) = k - pcN b k by omega, Nat.pow_succ, Nat.mul_right_comm]
def oG (m n p j : Nat) : Nat := if j < n then 0 else (10 - p) ^ j * p ^ (m - j)
def oNum (m n p : Nat) : Nat := fb_sm (fun j => cho m j * oG m n p j) (m + 1)
theorem oNum_M {m n p : Nat} (hm : m ≤ 8) : fb_sm (fun b => if n ≤ pcN b m then opr p b m else 0) (2 ^ m) = oNum m n p := by
  unfold oNum
  rw [← sm_pc m hm (oG m n p)]
  refine fb_sm_cong (fun b _ => ?_)
  show (if n ≤ pcN b m then opr p b m else 0) = if pcN b m < n then 0 else _
  by_cases h : n ≤ pcN b m
  · rw [if_pos h, if_neg (by omega), opr_is]
  · rw [if_neg h, if_pos (by omega)]
theorem power_n {a e : Nat} (he : e < 2 ^ 31) : fB_power (lN a) (nI e) = some (lN (a ^ e)) := by
  unfold fB_power fB_power_0
  have run : rb_iter rb_fuel (fun s => fB_power_5b (lN a) (nI e) s.1 s.2) ((1 : Int64), (0 : Int32)) = some (lN (a ^ e)) := rb_run' (fun k => (lN (a ^ k), nI k)) e rfl (by omega) (fun k hk => by
    show fB_power_5b _ _ (lN (a ^ k)) (nI k) = _
    unfold fB_power_5b
    rw [if_neg (nI_ge hk he), lN_mul, nI_1, ← Nat.pow_succ]) (by
    show fB_power_5b _ _ (lN (a ^ e)) (nI e) = _
    unfold fB_power_5b
    rw [if_pos (nI_le (Nat.le_refl _) he)])
  rw [run]; rfl
theorem C_oddsL {m n p : Nat} (hm : m ≤ 8) (hn : n ≤ 8) (hp : p ≤ 10) (h : rb_H) : rb_iter rb_fuel (fun s => fB_odds_48b (nI n) (nI p) (nI m) s.1 s.2.1 s.2.2 h) ((0 : Int64), (1 : Int64), (0 : Int32)) = some (lN (oNum m n p)) := by
  refine rb_run' (fun k => (lN (fb_sm (fun j => cho m j * oG m n p j) k), lN (cho m k), nI k)) (m + 1) (by rw [cho_0]; rfl) (by omega) (fun k hk => ?_) ?_
  · show fB_odds_48b _ _ _ (lN (fb_sm (fun j => cho m j * oG m n p j) k)) (lN (cho m k)) (nI k) h = _
    unfold fB_odds_48b fB_odds_90l48
    have e1 : (nI k + 1).toInt64 = lN (k + 1) := by rw [nI_1]; exact lI_n _ (by omega)
    have e0 : ¬ lN (k + 1) = (0 : Int64) := fun z => by
      have := (fb_lN_inj (a := k + 1) (b := 0) (by omega) (by omega)).mp z
      omega
    have e2 : lN (cho m k) * (nI m - nI k).toInt64 / lN (k + 1) = lN (cho m (k + 1)) := by
      rw [nI_sub (show k ≤ m by omega), lI_n _ (show m - k < 12 by omega)]
      exact cho_next m (by omega) k (by omega) (by omega)
    rw [if_neg (show ¬ nI m < nI k from nI_nlt (by omega) (by omega))]
    simp only [e1, e2, if_neg e0]
    rw [fb_sm_succ]
    by_cases hkn : k < n
    · rw [if_pos (nI_lt hkn (by omega)), nI_1]
      have : cho m k * oG m n p k = 0 := by unfold oG; rw [if_pos hkn, Nat.mul_zero]
      rw [this]; rfl
    · rw [if_neg (nI_nlt (by omega) (by omega)), show (10 : Int32) - nI p = nI (10 - p) from nI_sub (a := 10) hp, lI_n _ (show 10 - p < 12 by omega), lI_n _ (show p < 12 by omega), power_n (by omega), nI_sub (show k ≤ m by omega), power_n (by omega)]
      simp only [Option.bind_some]
      rw [lN_mul, lN_mul, lN_add, nI_1]
      have : cho m k * oG m n p k = cho m k * (10 - p) ^ k * p ^ (m - k) := by unfold oG; rw [if_neg hkn, Nat.mul_assoc]
      rw [this]
  · show fB_odds_48b _ _ _ (lN (fb_sm (fun j => cho m j * oG m n p j) (m + 1))) (lN (cho m (m + 1))) (nI (m + 1)) h = _
    unfold fB_odds_48b
    rw [if_pos (nI_lt (by omega) (by omega))]
    rfl
theorem M_tenL {m : Nat} (hm : m ≤ 8) (v2 v3 : Int32) (w : Int64) (h : rb_H) : rb_iter rb_fuel (fun s => fM_odds_99b v2 v3 (nI m) w s.1 s.2 h) ((1 : Int64), (0 : Int32)) = some (lN (10 ^ m)) := by
  refine rb_run' (fun k => (lN (10 ^ k), nI k)) m rfl (by omega) (fun k hk => ?_) ?_
  · show fM_odds_99b _ _ _ _ (lN (10 ^ k)) (nI k) h = _
    unfold fM_odds_99b
    rw [if_neg (nI_ge hk (by omega)), show lN (10 ^ k) * (10 : Int64) = lN (10 ^ k * 10) from lN_mul _ 10, nI_1, ← Nat.pow_succ]
  · show fM_odds_99b _ _ _ _ (lN (10 ^ m)) (nI m) h = _
    unfold fM_odds_99b
    rw [if_pos (nI_le (Nat.le_refl _) (by omega))]
theorem M_oddsIn {m p b : Nat} (hm : m ≤ 8) (hp : p ≤ 10) (hb : b < 256) (v2 : Int32) (w5 w7 : Int64) (h : rb_H) : rb_iter rb_fuel (fun s => fM_odds_150b v2 (nI p) (nI m) w5 w7 (nI b) s.1 s.2 h) ((1 : Int64), (0 : Int32)) = some (lN (opr p b m)) := by
  refine rb_run' (fun k => (lN (opr p b k), nI k)) m rfl (by omega) (fun k hk => ?_) ?_
  · show fM_odds_150b _ _ _ _ _ _ (lN (opr p b k)) (nI k) h = _
    unfold fM_odds_150b fM_odds_179l150
    have hbt : bt (nI b) k = b.testBit k := by
      show (BitVec.ofNat 32 b).getLsbD k = _
      rw [BitVec.getLsbD_ofNat, decide_eq_true (show k < 32 by omega), Bool.true_and]
    rw [if_neg (nI_ge hk (by omega)), has_bt _ (show k < 32 by omega), hbt, show (10 : Int32) - nI p = nI (10 - p) from nI_sub (a := 10) hp, lI_n _ (show 10 - p < 12 by omega), lI_n _ (show p < 12 by omega), lN_mul, lN_mul, nI_1]
    show _ = some (Sum.inl (lN (opr p b k * (if b.testBit k = true then 10 - p else p)), nI (k + 1)))
    cases b.testBit k
    · rfl
    · rfl
  · show fM_odds_150b _ _ _ _ _ _ (lN (opr p b m)) (nI m) h = _
    unfold fM_odds_150b
    rw [if_pos (nI_le (Nat.le_refl _) (by omega))]
theorem shl_n : ∀ m, m < 9 → rb_shl 1 (nI m) = nI (2 ^ m) ∧ 2 ^ m ≤ 256 := by decide +kernel
theorem M_oddsL {m n p : Nat} (hm : m ≤ 8) (hn : n ≤ 8) (hp : p ≤ 10) (w7 : Int64) (h : rb_H) : rb_iter rb_fuel (fun s => fM_odds_123b (nI n) (nI p) (nI m) s.1 w7 s.2 h) ((0 : Int64), (0 : Int32)) = some (lN (oNum m n p)) := by
  obtain ⟨s1, s2⟩ := shl_n m (by omega)
  rw [← oNum_M hm]
  refine rb_run' (fun k => (lN (fb_sm (fun b => if n ≤ pcN b m then opr p b m else 0) k), nI k)) (2 ^ m) rfl (by omega) (fun k hk => ?_) ?_
  · show fM_odds_123b _ _ _ (lN (fb_sm (fun b => if n ≤ pcN b m then opr p b m else 0) k)) _ (nI k) h = _
    unfold fM_odds_123b fM_odds_195l123
    have hpc : pcN k m ≤ m := fb_ct_le _ _
    rw [s1, if_neg (nI_ge hk (by omega)), pc_n (show m ≤ 32 by omega) hk]
    simp only [rb_lt]
    rw [fb_sm_succ]
    by_cases c : n ≤ pcN k m
    · rw [if_pos (nI_le c (by omega)), M_oddsIn hm hp (by omega)]
      simp only [Option.bind_some, if_pos c, lN_add, nI_1]
    · rw [if_neg (nI_ge (by omega) (by omega)), if_neg c, nI_1]; rfl
  · show fM_odds_123b _ _ _ (lN (fb_sm (fun b => if n ≤ pcN b m then opr p b m else 0) (2 ^ m))) _ (nI (2 ^ m)) h = _
    unfold fM_odds_123b
    rw [s1, if_pos (nI_le (Nat.le_refl _) (by omega))]
/-! the greatest common measure -/
def EN : Nat → Nat → Nat → Prop
  | 0, _, b => b = 0
  | n + 1, a, b => b = 0 ∨ EN n b (a % b)
theorem EN_two : ∀ k a b, b < 2 ^ k → EN (2 * k) a b
  | 0, a, b, h => by show b = 0; have : (2 : Nat) ^ 0 = 1 := rfl; omega
  | k + 1, a, b, h => by
    rw [show 2 * (k + 1) = (2 * k + 1) + 1 by omega]
    by_cases hb : b = 0
    · exact Or.inl hb
    · refine Or.inr ?_
      by_cases hr : a % b = 0
      · exact Or.inl hr
      · refine Or.inr (EN_two k _ _ ?_)
        have h1 : a % b < b := Nat.mod_lt _ (by omega)
        have h2 : b % (a % b) < a % b := Nat.mod_lt _ (by omega)
        have h3 : b % (a % b) + (a % b) ≤ b := by
          have h4 := Nat.div_add_mod b (a % b)
          have h5 : 1 ≤ b / (a % b) := Nat.div_pos (by omega) (by omega)
          have h6 : (a % b) * 1 ≤ (a % b) * (b / (a % b)) := Nat.mul_le_mul_left _ h5
          omega
        have h7 : (2 : Nat) ^ (k + 1) = 2 ^ k * 2 := Nat.pow_succ 2 k
        omega
theorem lg_0 {b : Nat} (hb : b < 2 ^ 63) : lg_cmp (lN b) (0 : Int64) = 0 ↔ b = 0 := by
  unfold lg_cmp
  by_cases e : b = 0
  · subst e
    simp [show lN 0 = (0 : Int64) from rfl]
  · have h0 : ¬ lN b = (0 : Int64) := fun z => e ((fb_lN_inj (a := b) (b := 0) hb (by omega)).mp z)
    rw [if_neg h0]
    refine ⟨fun z => ?_, fun z => absurd z e⟩
    split at z
    · exact absurd z (by decide)
    · exact absurd z (by decide)
theorem lN_div {a b : Nat} (ha : a < 2 ^ 31) (hb : b < 2 ^ 31) : lN a / lN b = lN (a / b) := by
  apply Int64.toInt_inj.mp
  have hne : lN b ≠ -1 := fun z => by
    have := congrArg Int64.toInt z
    rw [lN_toInt hb, show (-1 : Int64).toInt = -1 from by decide] at this
    omega
  rw [Int64.toInt_div_of_ne_right _ _ hne, lN_toInt ha, lN_toInt hb, lN_toInt (Nat.lt_of_le_of_lt (Nat.div_le_self a b) ha), Int.tdiv_eq_ediv_of_nonneg (by omega)]
  exact (Int.natCast_ediv _ _).symm
theorem lrem_n {a b : Nat} (ha : a < 2 ^ 31) (hb : b < 2 ^ 31) : rb_lrem (lN a) (lN b) = lN (a % b) := by
  unfold rb_lrem
  rw [lN_div ha hb, lN_mul, lN_sub (Nat.div_mul_le_self a b)]
  exact congrArg lN (by have := Nat.div_add_mod' a b; omega)
theorem M_common : ∀ (m n a b : Nat), n < m → a < 2 ^ 31 → b < 2 ^ 31 → EN n a b → fR_common m (lN a) (lN b) = some (lN (Nat.gcd a b))
  | 0, _, _, _, h, _, _, _ => absurd h (Nat.not_lt_zero _)
  | m + 1, n, a, b, h, ha, hb, hE => by
    show fM_common (fR_common m) (lN a) (lN b) = _
    unfold fM_common fM_common_0
    by_cases e : b = 0
    · subst e
      rw [if_pos ((lg_0 (by omega)).mpr rfl), Nat.gcd_zero_right]
    · have h0 : ¬ lN b = (0 : Int64) := fun z => e ((fb_lN_inj (a := b) (b := 0) (by omega) (by omega)).mp z)
      rw [if_neg (fun z => e ((lg_0 (by omega)).mp z)), if_neg h0, lrem_n ha hb]
      cases n with
      | zero => exact absurd hE e
      | succ n =>
        have hm : a % b < b := Nat.mod_lt _ (by omega)
        rw [M_common m n b (a % b) (by omega) hb (by omega) (hE.resolve_left e), Nat.gcd_comm a b, Nat.gcd_rec b a, Nat.gcd_comm (a % b) b]
        rfl
theorem lmax_n {g : Nat} (h : 1 ≤ g) (hg : g < 2 ^ 31) : rb_lmax (lN g) (1 : Int64) = lN g := by
  unfold rb_lmax
  by_cases c : (1 : Int64) < lN g
  · rw [if_pos c]
  · rw [if_neg c]
    have : ¬ lN 1 < lN g := c
    rw [lN_lt (by omega) hg] at this
    have : g = 1 := by omega
    rw [this]; rfl
theorem C_commonL {a b n : Nat} (hn : n < 100) (ha : a < 2 ^ 31) (hb : b < 2 ^ 31) (hE : EN n a b) : rb_iter rb_fuel (fun s => fB_commonOf_9b s.1 s.2.1 s.2.2) (lN a, lN b, (0 : Int32)) = some (lN (Nat.gcd a b)) := by
  have lp : ∃ x, rb_iter rb_fuel (fun s => fB_commonOf_9b s.1 s.2.1 s.2.2) (lN a, lN b, (0 : Int32)) = some x ∧ x = lN (Nat.gcd a b) := by
    refine rb_loop (fun s => ∃ c d j m, s = (lN c, lN d, nI j) ∧ EN m c d ∧ j + m < 100 ∧ c < 2 ^ 31 ∧ d < 2 ^ 31 ∧ Nat.gcd c d = Nat.gcd a b) _ (fun s => 100 - s.2.2.toNatClampNeg) ⟨a, b, 0, n, rfl, hE, by omega, ha, hb, rfl⟩ (by omega) ?_
    rintro s ⟨c, d, j, m, rfl, h1, h2, h3, h4, h5⟩
    dsimp only
    unfold fB_commonOf_9b
    rw [if_neg (show ¬ (100 : Int32) ≤ nI j from nI_ge (b := 100) (by omega) (by omega))]
    by_cases e : d = 0
    · subst e
      rw [if_pos ((lg_0 (by omega)).mpr rfl)]
      exact Or.inr ⟨_, rfl, by rw [← h5, Nat.gcd_zero_right]⟩
    · have h0 : ¬ lN d = (0 : Int64) := fun z => e ((fb_lN_inj (a := d) (b := 0) (by omega) (by omega)).mp z)
      rw [if_neg (fun z => e ((lg_0 (by omega)).mp z)), if_neg h0, lrem_n h3 h4, nI_1]
      cases m with
      | zero => exact absurd h1 e
      | succ m =>
        have hm : c % d < d := Nat.mod_lt _ (by omega)
        refine Or.inl ⟨_, rfl, ⟨d, c % d, j + 1, m, rfl, h1.resolve_left e, by omega, h4, by omega, ?_⟩, ?_⟩
        · rw [← h5, Nat.gcd_comm c d, Nat.gcd_rec d c, Nat.gcd_comm (c % d) d]
        · dsimp only
          rw [cl_n (show j + 1 < 2 ^ 31 by omega), cl_n (show j < 2 ^ 31 by omega)]
          omega
  obtain ⟨x, x1, x2⟩ := lp
  rw [x1, x2]
theorem C_common {a b k : Nat} (hk : k < 31) (ha : a < 2 ^ 31) (h0 : 1 ≤ b) (hb : b < 2 ^ k) : fB_commonOf (lN a) (lN b) = some (lN (Nat.gcd a b)) := by
  have hb2 : b < 2 ^ 31 := Nat.lt_of_lt_of_le hb (Nat.pow_le_pow_right (by omega) (by omega))
  unfold fB_commonOf fB_commonOf_0
  rw [C_commonL (n := 2 * k) (by omega) ha hb2 (EN_two k a b hb)]
  have g1 : 1 ≤ Nat.gcd a b := Nat.gcd_pos_of_pos_right _ h0
  have g2 : Nat.gcd a b ≤ b := Nat.gcd_le_right _ h0
  show some (rb_lmax (lN (Nat.gcd a b)) 1) = _
  rw [lmax_n g1 (by omega)]
