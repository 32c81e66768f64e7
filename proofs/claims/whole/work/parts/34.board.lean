/-! the board as numbers: kinds, sides, squares (25: out), purses; how many; turn, quarter, moves -/
abbrev sBd : Type := (Nat → Nat) × (Nat → Nat) × (Nat → Nat) × (Nat → Nat) × Nat × Nat × Int32 × Int32
def bK (B : sBd) (i : Nat) : Nat := B.1 i
def bS (B : sBd) (i : Nat) : Nat := B.2.1 i
def bP (B : sBd) (i : Nat) : Nat := B.2.2.1 i
def bU (B : sBd) (i : Nat) : Nat := B.2.2.2.1 i
def bN (B : sBd) : Nat := B.2.2.2.2.1
def bT (B : sBd) : Nat := B.2.2.2.2.2.1
def bQ (B : sBd) : Int32 := B.2.2.2.2.2.2.1
def bM (B : sBd) : Int32 := B.2.2.2.2.2.2.2
/-- a board that can be -/
def WF (B : sBd) : Prop := bN B ≤ 8 ∧ bT B ≤ 1 ∧ (∀ i, i < bN B → bK B i ≤ 5 ∧ bS B i ≤ 1 ∧ bP B i ≤ 25 ∧ bU B i ≤ 99) ∧ ∀ i j, i < bN B → j < bN B → bP B i = bP B j → bP B i ≠ 25 → i = j
/-- a State holds it -/
def RS (h : rb_H) (o : Nat) (B : sBd) : Prop := rb_hF h o 5 = nI (bN B) ∧ rb_hF h o 6 = nI (bT B) ∧ rb_hF h o 7 = bQ B ∧ rb_hF h o 8 = bM B ∧
  ∀ i, i < bN B → rb_hI h (o + 1) i = nI (bK B i) ∧ rb_hI h (o + 2) i = nI (bS B i) ∧ rb_hI h (o + 3) i = nI (bP B i) ∧ rb_hI h (o + 4) i = nI (bU B i)
/-- one of the model's rows holds it -/
def RM (h : rb_H) (a : Nat) (B : sBd) : Prop := rb_hF h 49 2 = nI (bN B) ∧ rb_hI h a 24 = nI (bT B) ∧ rb_hI h a 25 = bQ B ∧ rb_hI h a 26 = bM B ∧
  ∀ i, i < bN B → rb_hI h a i = nI (bK B i) ∧ rb_hI h 51 i = nI (bS B i) ∧ rb_hI h a (8 + i) = nI (bP B i) ∧ rb_hI h a (16 + i) = nI (bU B i)
/-- the first of which p holds; n if there is none -/
def fstF (p : Nat → Bool) : Nat → Nat → Nat
  | 0, i => i
  | m + 1, i => if p i then i else fstF p m (i + 1)
theorem fstF_spec (p : Nat → Bool) : ∀ (m i : Nat), i ≤ fstF p m i ∧ fstF p m i ≤ i + m ∧ (fstF p m i < i + m → p (fstF p m i) = true) ∧ ∀ j, i ≤ j → j < fstF p m i → p j = false
  | 0, i => ⟨Nat.le_refl _, Nat.le_refl _, fun h => absurd h (Nat.lt_irrefl _), fun j h1 h2 => absurd h2 (by show ¬ j < i; omega)⟩
  | m + 1, i => by
    unfold fstF
    by_cases hp : p i = true
    · rw [if_pos hp]
      exact ⟨Nat.le_refl _, by omega, fun _ => hp, fun j h1 h2 => absurd h2 (by omega)⟩
    · rw [if_neg hp]
      obtain ⟨h1, h2, h3, h4⟩ := fstF_spec p m (i + 1)
      refine ⟨by omega, by omega, fun h => h3 (by omega), fun j h5 h6 => ?_⟩
      by_cases e : j = i
      · subst e; cases h : p j <;> simp_all
      · exact h4 j (by omega) h6
def fst1 (p : Nat → Bool) (n : Nat) : Nat := fstF p n 0
theorem fst1_le (p : Nat → Bool) (n : Nat) : fst1 p n ≤ n := by have := (fstF_spec p n 0).2.1; unfold fst1; omega
theorem fst1_is {p : Nat → Bool} {n : Nat} (h : fst1 p n < n) : p (fst1 p n) = true := (fstF_spec p n 0).2.2.1 (by unfold fst1 at h; omega)
theorem fst1_no {p : Nat → Bool} {n j : Nat} (h : j < fst1 p n) : p j = false := (fstF_spec p n 0).2.2.2 j (Nat.zero_le _) h
theorem fst1_none {p : Nat → Bool} {n : Nat} : fst1 p n = n ↔ ∀ i, i < n → p i = false := by
  constructor
  · intro h i hi; exact fst1_no (by rw [h]; exact hi)
  · intro h
    rcases Nat.lt_or_ge (fst1 p n) n with q | q
    · have := fst1_is q; rw [h _ q] at this; cases this
    · have := fst1_le p n; omega
/-- the piece on a square; bN: nobody -/
def who (B : sBd) (s : Nat) : Nat := fst1 (fun i => decide (bP B i = s)) (bN B)
/-- whether one of those pieces of which c holds stands on a square -/
def occ (B : sBd) (c : Nat → Bool) (s : Nat) : Bool := (List.range (bN B)).any fun i => c i && decide (bP B i = s)
theorem occ_iff {B : sBd} {c : Nat → Bool} {s : Nat} : occ B c s = true ↔ ∃ i, i < bN B ∧ c i = true ∧ bP B i = s := by
  unfold occ
  simp [List.any_eq_true]
theorem bitOf_n {s : Nat} (hs : s ≤ 25) : fB_bitOf (nI s) = if s < 25 then rb_shl 1 (nI s) else 0 := by
  unfold fB_bitOf fB_bitOf_0
  rw [if_neg (nI_pos (by omega))]
  by_cases h : s < 25
  · rw [if_pos h, if_neg (by show ¬ nI 25 ≤ nI s; exact nI_ge h (by omega))]
  · rw [if_neg h, if_pos (by show nI 25 ≤ nI s; exact nI_le (by omega) (by omega))]
theorem sqs_bt (B : sBd) (c : Nat → Bool) (hP : ∀ i, i < bN B → bP B i ≤ 25) : ∀ m, m ≤ bN B → ∀ s, s < 32 → bt (fo (fun i a => a ||| (if c i then fB_bitOf (nI (bP B i)) else 0)) m 0) s = (decide (s < 25) && (List.range m).any fun i => c i && decide (bP B i = s))
  | 0, _, s, _ => by show bt 0 s = _; rw [b_0]; simp
  | m + 1, hm, s, hs => by
    show bt (fo _ m 0 ||| (if c m then fB_bitOf (nI (bP B m)) else 0)) s = _
    rw [b_or, sqs_bt B c hP m (by omega) s hs, List.range_succ, List.any_append, Bool.and_or_distrib_left]
    congr 1
    have h25 := hP m (by omega)
    by_cases hc : c m = true
    · rw [if_pos hc, bitOf_n h25]
      by_cases h : bP B m < 25
      · rw [if_pos h, shl1_bt (by omega) hs]
        simp only [List.any_cons, List.any_nil, hc, Bool.true_and, Bool.or_false]
        by_cases e : s = bP B m
        · subst e; simp [h]
        · have : ¬ bP B m = s := fun z => e z.symm
          simp [e, this]
      · rw [if_neg h, b_0]
        simp only [List.any_cons, List.any_nil, hc, Bool.true_and, Bool.or_false]
        by_cases e : s < 25
        · have : ¬ bP B m = s := by omega
          simp [this]
        · simp [e]
    · have hc : c m = false := by cases h : c m <;> simp_all
      rw [if_neg (by rw [hc]; decide), b_0]
      simp [hc]
section
variable {h : rb_H} {o a : Nat} {B : sBd}
theorem S_has_y (hR : RS h o B) (hW : WF B) {p : Nat} (hp : p < bN B) : fS_has o (nI p) h = true := by
  have h8 := hW.1
  unfold fS_has fS_has_0
  rw [hR.1, if_neg (nI_pos (by omega)), if_neg (nI_ge hp (by omega)), if_neg (by show ¬ nI 8 ≤ nI p; exact nI_ge (by omega) (by omega))]
theorem S_has_n (hR : RS h o B) (hW : WF B) {x : Int32} (hx : ∀ p, p < bN B → x ≠ nI p) : fS_has o x h = false := by
  have h8 := hW.1
  unfold fS_has fS_has_0
  by_cases h0 : x < 0
  · rw [if_pos h0]
  · rw [if_neg h0]
    obtain ⟨j, hj, rfl⟩ := nI_of h0
    rw [hR.1, if_pos]
    exact nI_le (Nat.not_lt.mp fun q => hx j q rfl) (by omega)
theorem S_stands_y (hR : RS h o B) (hW : WF B) {p : Nat} (hp : p < bN B) : fS_stands o (nI p) h = some (decide (bP B p ≠ 25)) := by
  have h8 := hW.1
  have hP := (hW.2.2.1 p hp).2.2.1
  unfold fS_stands fS_stands_0
  rw [S_has_y hR hW hp, if_pos rfl, if_neg (oob_n (by omega) (by omega)), cl_n (by omega), (hR.2.2.2.2 p hp).2.2.1]
  by_cases h25 : bP B p = 25
  · rw [if_pos (by rw [h25]; rfl)]
    simp [h25]
  · rw [if_neg (by intro q; exact h25 ((nI_eq (by omega) (by omega)).mp (show nI (bP B p) = nI 25 from q)))]
    simp [h25]
theorem S_stands_n (hR : RS h o B) (hW : WF B) {x : Int32} (hx : ∀ p, p < bN B → x ≠ nI p) : fS_stands o x h = some false := by
  unfold fS_stands fS_stands_0
  rw [S_has_n hR hW hx, if_neg (by decide)]
theorem S_standingPieces (hR : RS h o B) (hW : WF B) : fS_standingPieces o h = some (bits (fun i => decide (bP B i ≠ 25)) (bN B)) := by
  have h8 := hW.1
  unfold fS_standingPieces fS_standingPieces_0
  refine rb_runB (fun k => (bits (fun i => decide (bP B i ≠ 25)) k, nI k)) (bN B) (bits (fun i => decide (bP B i ≠ 25)) (bN B)) rfl (by omega) (fun k hk => ?_) ?_ rfl
  · show fS_standingPieces_4b o _ (nI k) h = _
    unfold fS_standingPieces_4b fS_standingPieces_28l4
    rw [hR.1, if_neg (nI_ge hk (by omega)), S_stands_y hR hW hk]
    show (if _ then _ else _) = _
    rw [nI_1]
    by_cases h25 : bP B k = 25 <;> simp [h25, bits, fo]
  · show fS_standingPieces_4b o _ (nI (bN B)) h = _
    unfold fS_standingPieces_4b
    rw [hR.1, if_pos (nI_le (Nat.le_refl _) (by omega))]
theorem S_isOnTurn_y (hR : RS h o B) (hW : WF B) {p : Nat} (hp : p < bN B) : fS_isOnTurn o (nI p) h = some (decide (bP B p ≠ 25) && decide (bS B p = bT B)) := by
  have h8 := hW.1
  have hw := hW.2.2.1 p hp
  have hT := hW.2.1
  unfold fS_isOnTurn fS_isOnTurn_0
  simp only [S_stands_y hR hW hp, cl_n (show p < 2 ^ 31 by omega), (hR.2.2.2.2 p hp).2.1, hR.2.1, Option.bind_some, if_neg (oob_n (show p < 8 by omega) (by omega))]
  by_cases h25 : bP B p = 25
  · simp [h25]
  · by_cases e : bS B p = bT B
    · simp [h25, e]
    · have : ¬ nI (bS B p) = nI (bT B) := fun z => e ((nI_eq (by omega) (by omega)).mp z)
      simp [h25, e, this]
theorem S_isOnTurn_n (hR : RS h o B) (hW : WF B) {x : Int32} (hx : ∀ p, p < bN B → x ≠ nI p) : fS_isOnTurn o x h = some false := by
  unfold fS_isOnTurn fS_isOnTurn_0
  rw [S_stands_n hR hW hx]
  rfl
theorem S_who (hR : RS h o B) (hW : WF B) {s : Nat} (hs : s < 25) : fS_whoStandsOn o (nI s) h = some (nI (if who B s < bN B then who B s else 8)) := by
  have h8 := hW.1
  have hle : who B s ≤ bN B := fst1_le _ _
  unfold fS_whoStandsOn fS_whoStandsOn_0
  have body : ∀ k, k < bN B → fS_whoStandsOn_2b o (nI s) (nI k) h = if bP B k = s then some (.inr (.inl (nI k))) else some (.inl (nI (k + 1))) := by
    intro k hk
    have hw := hW.2.2.1 k hk
    unfold fS_whoStandsOn_2b fS_whoStandsOn_28l2
    rw [hR.1, if_neg (nI_ge hk (by omega)), if_neg (oob_n (by omega) (by omega)), cl_n (by omega), (hR.2.2.2.2 k hk).2.2.1, nI_1]
    by_cases e : bP B k = s
    · rw [if_pos e, if_pos (by rw [e]), if_neg (fun z => by have := (nI_eq (by omega) (by omega)).mp (show nI s = nI 25 from z); omega)]
    · rw [if_neg e, if_neg (fun z => e ((nI_eq (by omega) (by omega)).mp z))]
  by_cases hw : who B s < bN B
  · rw [if_pos hw]
    refine rb_runB (fun k => nI k) (who B s) (.inl (nI (who B s))) rfl (by omega) (fun k hk => ?_) ?_ rfl
    · have := fst1_no hk
      rw [body k (by omega), if_neg (of_decide_eq_false this)]
    · have h9 : bP B (who B s) = s := of_decide_eq_true (fst1_is (p := fun i => decide (bP B i = s)) hw)
      rw [body _ hw, if_pos h9]
  · rw [if_neg hw]
    have e : who B s = bN B := by omega
    refine rb_runB (fun k => nI k) (bN B) (.inr ()) rfl (by omega) (fun k hk => ?_) ?_ rfl
    · have := fst1_none.mp e k hk
      rw [body k hk, if_neg (of_decide_eq_false this)]
    · unfold fS_whoStandsOn_2b
      rw [hR.1, if_pos (nI_le (Nat.le_refl _) (by omega))]
/-- purses of those of which c holds -/
def sumU (B : sBd) (c : Nat → Bool) (n : Nat) : Nat := fb_sm (fun i => if c i then bU B i else 0) n
theorem sumU_le (hW : WF B) (c : Nat → Bool) : ∀ n, n ≤ bN B → sumU B c n ≤ 99 * n
  | 0, _ => Nat.le_refl _
  | n + 1, hn => by
    have := sumU_le hW c n (by omega)
    have hu := (hW.2.2.1 n (by omega)).2.2.2
    show sumU B c n + (if c n then bU B n else 0) ≤ _
    split <;> omega
theorem S_pursesOf (hR : RS h o B) (hW : WF B) {t : Nat} (ht : t < 100) : fS_pursesOf o (nI t) h = some (nI (sumU B (fun i => decide (bS B i = t)) (bN B))) := by
  have h8 := hW.1
  unfold fS_pursesOf fS_pursesOf_0
  refine rb_runB (fun k => (nI (sumU B (fun i => decide (bS B i = t)) k), nI k)) (bN B) (nI (sumU B (fun i => decide (bS B i = t)) (bN B))) rfl (by omega) (fun k hk => ?_) ?_ rfl
  · have hw := hW.2.2.1 k hk
    show fS_pursesOf_4b o (nI t) _ (nI k) h = _
    unfold fS_pursesOf_4b fS_pursesOf_33l4
    simp only [hR.1, if_neg (nI_ge hk (show bN B < 2 ^ 31 by omega)), if_neg (oob_n (show k < 8 by omega) (by omega)), cl_n (show k < 2 ^ 31 by omega), (hR.2.2.2.2 k hk).2.1, (hR.2.2.2.2 k hk).2.2.2, nI_1, nI_add]
    have e0 : ∀ x : Int32, x + 0 = x := fun x => by rw [← Int32.toBitVec_inj, Int32.toBitVec_add]; exact BitVec.add_zero _
    by_cases e : bS B k = t
    · rw [if_pos (by rw [e])]
      simp [sumU, fb_sm, e]
    · rw [if_neg (fun z => e ((nI_eq (by omega) (by omega)).mp z)), e0]
      simp [sumU, fb_sm, e]
  · show fS_pursesOf_4b o (nI t) _ (nI (bN B)) h = _
    unfold fS_pursesOf_4b
    rw [hR.1, if_pos (nI_le (Nat.le_refl _) (by omega))]
theorem S_squaresOf (hR : RS h o B) (hW : WF B) {t q : Nat} (ht : t < 100) (hq : q < 100) : fS_squaresOf o (nI t) (nI q) h = some (bits (occ B (fun i => decide (i ≠ q) && decide (bS B i = t))) 25) := by
  have h8 := hW.1
  have hfin : fo (fun i a => a ||| (if (decide (i ≠ q) && decide (bS B i = t)) then fB_bitOf (nI (bP B i)) else 0)) (bN B) 0 = bits (occ B (fun i => decide (i ≠ q) && decide (bS B i = t))) 25 :=
    bits_of (by omega) (fun s hs => sqs_bt B _ (fun i hi => (hW.2.2.1 i hi).2.2.1) (bN B) (Nat.le_refl _) s hs)
  rw [← hfin]
  unfold fS_squaresOf fS_squaresOf_0
  refine rb_runB (fun k => (fo (fun i a => a ||| (if (decide (i ≠ q) && decide (bS B i = t)) then fB_bitOf (nI (bP B i)) else 0)) k 0, nI k)) (bN B) _ rfl (by omega) (fun k hk => ?_) ?_ rfl
  · have hw := hW.2.2.1 k hk
    show fS_squaresOf_5b o (nI t) (nI q) _ (nI k) h = _
    unfold fS_squaresOf_5b fS_squaresOf_45l5 fS_squaresOf_46l5
    simp only [hR.1, if_neg (nI_ge hk (show bN B < 2 ^ 31 by omega)), if_neg (oob_n (show k < 8 by omega) (by omega)), cl_n (show k < 2 ^ 31 by omega), (hR.2.2.2.2 k hk).2.1, (hR.2.2.2.2 k hk).2.2.1, nI_1]
    by_cases e1 : k = q
    · subst e1
      rw [if_pos rfl]
      simp [fo]
    · rw [if_neg (fun z => e1 ((nI_eq (by omega) (by omega)).mp z))]
      by_cases e : bS B k = t
      · rw [if_pos (by rw [e])]
        simp [fo, e, e1, rb_lt]
      · rw [if_neg (fun z => e ((nI_eq (by omega) (by omega)).mp z))]
        simp [fo, e]
  · show fS_squaresOf_5b o (nI t) (nI q) _ (nI (bN B)) h = _
    unfold fS_squaresOf_5b
    rw [hR.1, if_pos (nI_le (Nat.le_refl _) (by omega))]
theorem S_others (hR : RS h o B) (hW : WF B) {q : Nat} (hq : q < 100) : fS_others o (nI q) h = some (bits (occ B (fun i => decide (i ≠ q))) 25) := by
  have h8 := hW.1
  have hfin : fo (fun i a => a ||| (if decide (i ≠ q) then fB_bitOf (nI (bP B i)) else 0)) (bN B) 0 = bits (occ B (fun i => decide (i ≠ q))) 25 :=
    bits_of (by omega) (fun s hs => sqs_bt B _ (fun i hi => (hW.2.2.1 i hi).2.2.1) (bN B) (Nat.le_refl _) s hs)
  rw [← hfin]
  unfold fS_others fS_others_0
  refine rb_runB (fun k => (fo (fun i a => a ||| (if decide (i ≠ q) then fB_bitOf (nI (bP B i)) else 0)) k 0, nI k)) (bN B) _ rfl (by omega) (fun k hk => ?_) ?_ rfl
  · have hw := hW.2.2.1 k hk
    show fS_others_4b o (nI q) _ (nI k) h = _
    unfold fS_others_4b fS_others_31l4
    simp only [hR.1, if_neg (nI_ge hk (show bN B < 2 ^ 31 by omega)), if_neg (oob_n (show k < 8 by omega) (by omega)), cl_n (show k < 2 ^ 31 by omega), (hR.2.2.2.2 k hk).2.2.1, nI_1]
    by_cases e1 : k = q
    · subst e1
      rw [if_pos rfl]
      simp [fo]
    · rw [if_neg (fun z => e1 ((nI_eq (by omega) (by omega)).mp z))]
      simp [fo, e1, rb_lt]
  · show fS_others_4b o (nI q) _ (nI (bN B)) h = _
    unfold fS_others_4b
    rw [hR.1, if_pos (nI_le (Nat.le_refl _) (by omega))]
end
