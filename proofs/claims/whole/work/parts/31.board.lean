/-! the board as numbers: kinds, sides, squares (25: out), purses; how many; turn, quarter, moves -/
abbrev sBd : Type := (Nat → Nat) × (Nat → Nat) × (Nat → Nat) × (Nat → Nat) × Nat × Nat × Int32 × Int32
def bK (B : sBd) (i : Nat) : Nat := B.1 i
def bS (B : sBd) (i : Nat) : Nat := B.2.1 i
def bP (B : sBd) (i : Nat) : Nat := B.2.2.1 i
def bU (B : sBd) (i : Nat) : Nat := B.2.2.2.1 i
def bN (B : sBd) : Nat := B.2.2.2.2.1
def bT (B : sBd) : Nat := B.2.2.2.2.2.1
def bQ (B : sBd) : Int32 := B.2.2.2.2.2.2.1
def bM (B : sBd) : Int32 := B.2.2.2.2.2.2.2
/-- a board that can be -/
def WF (B : sBd) : Prop := bN B ≤ 8 ∧ bT B ≤ 1 ∧ (∀ i, i < bN B → bK B i ≤ 5 ∧ bS B i ≤ 1 ∧ bP B i ≤ 25 ∧ bU B i ≤ 99) ∧ ∀ i j, i < bN B → j < bN B → bP B i = bP B j → bP B i ≠ 25 → i = j
/-- a State holds it -/
def RS (h : rb_H) (o : Nat) (B : sBd) : Prop := rb_hF h o 5 = nI (bN B) ∧ rb_hF h o 6 = nI (bT B) ∧ rb_hF h o 7 = bQ B ∧ rb_hF h o 8 = bM B ∧
  ∀ i, i < bN B → rb_hI h (o + 1) i = nI (bK B i) ∧ rb_hI h (o + 2) i = nI (bS B i) ∧ rb_hI h (o + 3) i = nI (bP B i) ∧ rb_hI h (o + 4) i = nI (bU B i)
/-- one of the model's rows holds it -/
def RM (h : rb_H) (a : Nat) (B : sBd) : Prop := rb_hF h 49 2 = nI (bN B) ∧ rb_hI h a 24 = nI (bT B) ∧ rb_hI h a 25 = bQ B ∧ rb_hI h a 26 = bM B ∧
  ∀ i, i < bN B → rb_hI h a i = nI (bK B i) ∧ rb_hI h 51 i = nI (bS B i) ∧ rb_hI h a (8 + i) = nI (bP B i) ∧ rb_hI h a (16 + i) = nI (bU B i)
def fo {α : Type} (f : Nat → α → α) : Nat → α → α
  | 0, a => a
  | n + 1, a => f n (fo f n a)
/-- bits of those below n of which p holds -/
def bits (p : Nat → Bool) (n : Nat) : Int32 := fo (fun i a => a ||| (if p i then rb_shl 1 (nI i) else 0)) n 0
/-- who stands on a square; 8: nobody -/
def whoF (B : sBd) (s : Nat) : Nat → Nat → Nat
  | 0, i => 8
  | m + 1, i => if bP B i = s then i else whoF B s m (i + 1)
def who (B : sBd) (s : Nat) : Nat := whoF B s (bN B) 0
section
variable {h : rb_H} {o a : Nat} {B : sBd}
theorem S_has_y (hR : RS h o B) (hW : WF B) {p : Nat} (hp : p < bN B) : fS_has o (nI p) h = true := by
  have h8 := hW.1
  unfold fS_has fS_has_0
  rw [hR.1, if_neg (nI_pos (by omega)), if_neg (nI_ge hp (by omega)), if_neg (by show ¬ nI 8 ≤ nI p; exact nI_ge (by omega) (by omega))]
theorem S_has_n (hR : RS h o B) (hW : WF B) {x : Int32} (hx : ∀ p, p < bN B → x ≠ nI p) : fS_has o x h = false := by
  have h8 := hW.1
  unfold fS_has fS_has_0
  by_cases h0 : x < 0
  · rw [if_pos h0]
  · rw [if_neg h0]
    obtain ⟨j, hj, rfl⟩ := nI_of h0
    rw [hR.1, if_pos]
    exact nI_le (Nat.not_lt.mp fun q => hx j q rfl) (by omega)
theorem S_stands_y (hR : RS h o B) (hW : WF B) {p : Nat} (hp : p < bN B) : fS_stands o (nI p) h = some (decide (bP B p ≠ 25)) := by
  have h8 := hW.1
  have hP := (hW.2.2.1 p hp).2.2.1
  unfold fS_stands fS_stands_0
  rw [S_has_y hR hW hp, if_pos rfl, if_neg (oob_n (by omega) (by omega)), cl_n (by omega), (hR.2.2.2.2 p hp).2.2.1]
  by_cases h25 : bP B p = 25
  · rw [if_pos (by rw [h25]; rfl)]
    simp [h25]
  · rw [if_neg (by intro q; exact h25 ((nI_eq (by omega) (by omega)).mp (show nI (bP B p) = nI 25 from q)))]
    simp [h25]
theorem S_stands_n (hR : RS h o B) (hW : WF B) {x : Int32} (hx : ∀ p, p < bN B → x ≠ nI p) : fS_stands o x h = some false := by
  unfold fS_stands fS_stands_0
  rw [S_has_n hR hW hx, if_neg (by decide)]
theorem S_standingPieces (hR : RS h o B) (hW : WF B) : fS_standingPieces o h = some (bits (fun i => decide (bP B i ≠ 25)) (bN B)) := by
  have h8 := hW.1
  unfold fS_standingPieces fS_standingPieces_0
  refine rb_runB (fun k => (bits (fun i => decide (bP B i ≠ 25)) k, nI k)) (bN B) (bits (fun i => decide (bP B i ≠ 25)) (bN B)) rfl (by omega) (fun k hk => ?_) ?_ rfl
  · show fS_standingPieces_4b o _ (nI k) h = _
    unfold fS_standingPieces_4b fS_standingPieces_28l4
    rw [hR.1, if_neg (nI_ge hk (by omega)), S_stands_y hR hW hk]
    show (if _ then _ else _) = _
    rw [nI_1]
    by_cases h25 : bP B k = 25 <;> simp [h25, bits, fo]
  · show fS_standingPieces_4b o _ (nI (bN B)) h = _
    unfold fS_standingPieces_4b
    rw [hR.1, if_pos (nI_le (Nat.le_refl _) (by omega))]
end
