/-! where the model says that a piece can go -/
def adx (f t : Nat) : Nat := (f % 5 - t % 5) + (t % 5 - f % 5)
def ady (f t : Nat) : Nat := (f / 5 - t / 5) + (t / 5 - f / 5)
def alN (f t : Nat) : Bool := decide (adx f t = 0) || decide (ady f t = 0) || decide (adx f t = ady f t)
def dstN (f t : Nat) : Nat := max (adx f t) (ady f t)
def sgn (a b : Nat) : Int := if a < b then 1 else if b < a then -1 else 0
def dirN (f t : Nat) : Nat := ((List.range 8).find? fun d => decide (dirX d = sgn (f % 5) (t % 5)) && decide (dirY d = sgn (f / 5) (t / 5))).getD 8
def itN (d : Nat) : Nat → Nat → Nat
  | 0, s => s
  | i + 1, s => nx d (itN d i s)
theorem itN_succ (d : Nat) : ∀ (i s : Nat), itN d (i + 1) s = itN d i (nx d s)
  | 0, _ => rfl
  | i + 1, s => by show nx d (itN d (i + 1) s) = nx d (itN d i (nx d s)); rw [itN_succ d i s]
theorem rayB_iff {T : Nat → Bool} {d : Nat} : ∀ {m s t : Nat}, rayB T d m s t = true ↔ ∃ j, 1 ≤ j ∧ j ≤ m ∧ (∀ i, 1 ≤ i → i ≤ j → itN d i s < 25) ∧ itN d j s = t ∧ ∀ i, 1 ≤ i → i < j → T (itN d i s) = false
  | 0, s, t => by
    constructor
    · intro h; cases h
    · rintro ⟨j, h1, h2, -⟩; omega
  | m + 1, s, t => by
    unfold rayB
    simp only [Bool.and_eq_true, Bool.or_eq_true, decide_eq_true_eq, Bool.not_eq_true']
    constructor
    · rintro ⟨h1, h2 | ⟨h2, h3⟩⟩
      · exact ⟨1, by omega, by omega, fun i a b => by rw [show i = 1 by omega]; exact h1, h2, fun i a b => by omega⟩
      · obtain ⟨j, q1, q2, q3, q4, q5⟩ := rayB_iff.mp h3
        refine ⟨j + 1, by omega, by omega, fun i a b => ?_, by rw [itN_succ]; exact q4, fun i a b => ?_⟩
        · by_cases e : i = 1
          · rw [e]; exact h1
          · obtain ⟨i', rfl⟩ : ∃ i', i = i' + 1 := ⟨i - 1, by omega⟩
            rw [itN_succ]
            exact q3 i' (by omega) (by omega)
        · by_cases e : i = 1
          · rw [e]; exact h2
          · obtain ⟨i', rfl⟩ : ∃ i', i = i' + 1 := ⟨i - 1, by omega⟩
            rw [itN_succ]
            exact q5 i' (by omega) (by omega)
    · rintro ⟨j, q1, q2, q3, q4, q5⟩
      refine ⟨q3 1 (by omega) q1, ?_⟩
      by_cases e : j = 1
      · subst e; exact Or.inl q4
      · obtain ⟨j', rfl⟩ : ∃ j', j = j' + 1 := ⟨j - 1, by omega⟩
        refine Or.inr ⟨q5 1 (by omega) (by omega), rayB_iff.mpr ⟨j', by omega, by omega, fun i a b => ?_, by rw [← itN_succ]; exact q4, fun i a b => ?_⟩⟩
        · rw [← itN_succ]; exact q3 (i + 1) (by omega) (by omega)
        · rw [← itN_succ]; exact q5 (i + 1) (by omega) (by omega)
/-- along a line: from f to t, by dirN, dstN steps -/
def chkF (f t : Nat) : Bool := decide (f = t) || !alN f t || (decide (1 ≤ dstN f t ∧ dstN f t ≤ 4 ∧ dirN f t < 8 ∧ itN (dirN f t) (dstN f t) f = t) && decide ((decide (adx f t = 0) || decide (ady f t = 0)) = decide (dirN f t < 4)) && decide (decide (adx f t = ady f t) = decide (4 ≤ dirN f t)) && (List.range 5).all fun i => !decide (i ≤ dstN f t) || (decide (itN (dirN f t) i f < 25) && (!decide (i < dstN f t) || decide (itN (dirN f t) i f ≠ t))))
theorem chkF_all : ∀ f, f < 25 → ∀ t, t < 25 → chkF f t = true := by decide +kernel
theorem al_fwd : ∀ f, f < 25 → ∀ t, t < 25 → f ≠ t → alN f t = true → (1 ≤ dstN f t ∧ dstN f t ≤ 4 ∧ dirN f t < 8 ∧ itN (dirN f t) (dstN f t) f = t ∧ ((decide (adx f t = 0) || decide (ady f t = 0)) = decide (dirN f t < 4)) ∧ (decide (adx f t = ady f t) = decide (4 ≤ dirN f t))) ∧ ∀ i, i < 5 → i ≤ dstN f t → itN (dirN f t) i f < 25 ∧ (i < dstN f t → itN (dirN f t) i f ≠ t) := by
  intro f hf t ht h1 h2
  have h := chkF_all f hf t ht
  unfold chkF at h
  simp only [h1, h2, decide_false, Bool.not_true, Bool.or_false, Bool.false_or, Bool.and_eq_true, decide_eq_true_eq, List.all_eq_true, List.mem_range, Bool.or_eq_true, Bool.not_eq_true', decide_eq_false_iff_not] at h
  obtain ⟨⟨⟨⟨a1, a2, a3, a4⟩, a5⟩, a6⟩, a7⟩ := h
  refine ⟨⟨a1, a2, a3, a4, a5, a6⟩, fun i hi hle => ?_⟩
  rcases a7 i hi with q | ⟨q1, q2⟩
  · exact absurd hle q
  · exact ⟨q1, fun hlt => q2.resolve_left (fun z => z hlt)⟩
def chkB (f e j : Nat) : Bool := !((List.range 5).all fun i => !decide (1 ≤ i ∧ i ≤ j) || decide (itN e i f < 25)) || (decide (f ≠ itN e j f) && alN f (itN e j f) && decide (dirN f (itN e j f) = e) && decide (dstN f (itN e j f) = j))
theorem chkB_all : ∀ f, f < 25 → ∀ e, e < 8 → ∀ j, j < 5 → (decide (j = 0) || chkB f e j) = true := by decide +kernel
theorem al_bwd : ∀ f, f < 25 → ∀ e, e < 8 → ∀ j, j < 5 → 1 ≤ j → (∀ i, i < 5 → 1 ≤ i → i ≤ j → itN e i f < 25) → f ≠ itN e j f ∧ alN f (itN e j f) = true ∧ dirN f (itN e j f) = e ∧ dstN f (itN e j f) = j := by
  intro f hf e he j hj h1 h2
  have h := chkB_all f hf e he j hj
  have h0 : decide (j = 0) = false := decide_eq_false (by omega)
  have h3 : ((List.range 5).all fun i => !decide (1 ≤ i ∧ i ≤ j) || decide (itN e i f < 25)) = true := by
    rw [List.all_eq_true]
    intro i hi
    have hi := List.mem_range.mp hi
    by_cases q : 1 ≤ i ∧ i ≤ j
    · have := h2 i hi q.1 q.2
      simp [this]
    · simp only [q, decide_false, Bool.not_false, Bool.true_or]
  unfold chkB at h
  rw [h0, h3] at h
  simp only [Bool.false_or, Bool.not_true, Bool.and_eq_true, decide_eq_true_eq] at h
  exact ⟨h.1.1.1, h.1.1.2, h.1.2, h.2⟩
noncomputable def chkM (f t : Nat) : Bool := decide (f = t) || !alN f t || (decide ((nI f + fJI_signum_0 (rb_rem (nI t) 5 - rb_rem (nI f) 5)) + 5 * fJI_signum_0 (nI t / 5 - nI f / 5) = nI (itN (dirN f t) 1 f)) && (List.range 4).all fun i => !decide (i < dstN f t) || decide (nI (itN (dirN f t) i f) + (fJI_signum_0 (rb_rem (nI t) 5 - rb_rem (nI f) 5) + 5 * fJI_signum_0 (nI t / 5 - nI f / 5)) = nI (itN (dirN f t) (i + 1) f)))
theorem chkM_all : ∀ f, f < 25 → ∀ t, t < 25 → chkM f t = true := by
  unfold chkM fJI_signum_0 rb_rem; decide +kernel
theorem M_step : ∀ f, f < 25 → ∀ t, t < 25 → f ≠ t → alN f t = true → ((nI f + fJI_signum (rb_rem (nI t) 5 - rb_rem (nI f) 5)) + 5 * fJI_signum (nI t / 5 - nI f / 5) = nI (itN (dirN f t) 1 f)) ∧ ∀ i, i < 4 → i < dstN f t → nI (itN (dirN f t) i f) + (fJI_signum (rb_rem (nI t) 5 - rb_rem (nI f) 5) + 5 * fJI_signum (nI t / 5 - nI f / 5)) = nI (itN (dirN f t) (i + 1) f) := by
  intro f hf t ht h1 h2
  have h := chkM_all f hf t ht
  unfold chkM at h
  simp only [h1, h2, decide_false, Bool.not_true, Bool.or_false, Bool.false_or, Bool.and_eq_true, decide_eq_true_eq, List.all_eq_true, List.mem_range, Bool.or_eq_true, Bool.not_eq_true', decide_eq_false_iff_not] at h
  exact ⟨h.1, fun i hi hlt => (h.2 i hi).resolve_left (fun z => z hlt)⟩
theorem M_dx : ∀ f, f < 25 → ∀ t, t < 25 → rb_abs (rb_rem (nI t) 5 - rb_rem (nI f) 5) = nI (adx f t) ∧ rb_abs (nI t / 5 - nI f / 5) = nI (ady f t) ∧ adx f t ≤ 4 ∧ ady f t ≤ 4 := by
  unfold rb_rem rb_abs; decide +kernel
/-- whether nobody else stands between -/
def openB (B : sBd) (p f t : Nat) : Bool := (List.range (dstN f t)).all fun i => decide (i = 0) || !(ownB B p (itN (dirN f t) i f) || foeB B p (itN (dirN f t) i f))
theorem ray_open (B : sBd) (p : Nat) {f t lo n : Nat} (hf : f < 25) (ht : t < 25) (hn : lo + n ≤ 8) : ((List.range n).any fun d => rayB (fun s => ownB B p s || foeB B p s) (lo + d) 4 f t) = (decide (f ≠ t) && alN f t && decide (lo ≤ dirN f t ∧ dirN f t < lo + n) && openB B p f t) := by
  apply Bool.eq_iff_iff.mpr
  simp only [List.any_eq_true, List.mem_range, Bool.and_eq_true, decide_eq_true_eq]
  constructor
  · rintro ⟨d, hd, hr⟩
    obtain ⟨j, h1, h2, h3, h4, h5⟩ := rayB_iff.mp hr
    have := al_bwd f hf (lo + d) (by omega) j (by omega) h1 (fun i _ a b => h3 i a b)
    rw [h4] at this
    obtain ⟨g1, g2, g3, g4⟩ := this
    refine ⟨⟨⟨g1, g2⟩, by omega⟩, ?_⟩
    unfold openB
    rw [List.all_eq_true]
    intro i hi
    have hi := List.mem_range.mp hi
    rw [g4] at hi
    rw [g3]
    by_cases e : i = 0
    · simp [e]
    · have := h5 i (by omega) hi
      rw [this]
      simp
  · rintro ⟨⟨⟨g1, g2⟩, g3⟩, g4⟩
    obtain ⟨⟨a1, a2, a3, a4, -⟩, a5⟩ := al_fwd f hf t ht g1 g2
    refine ⟨dirN f t - lo, by omega, ?_⟩
    rw [show lo + (dirN f t - lo) = dirN f t by omega]
    refine rayB_iff.mpr ⟨dstN f t, a1, a2, fun i b1 b2 => (a5 i (by omega) b2).1, a4, fun i b1 b2 => ?_⟩
    unfold openB at g4
    have := List.all_eq_true.mp g4 i (List.mem_range.mpr b2)
    have hi0 : ¬ i = 0 := by omega
    simp only [hi0, decide_false, Bool.false_or, Bool.not_eq_true'] at this
    exact this
theorem ownfoe {B : sBd} (hW : WF B) {p s : Nat} (hp : p < bN B) (hs : s < 25) :
    (who B s < bN B → who B s ≠ p → ownB B p s = decide (bS B (who B s) = bS B p) ∧ foeB B p s = !decide (bS B (who B s) = bS B p)) ∧ ((who B s < bN B → who B s = p) → ownB B p s = false ∧ foeB B p s = false) := by
  have hle : who B s ≤ bN B := fst1_le _ _
  have uniq : ∀ i, i < bN B → bP B i = s → who B s < bN B ∧ i = who B s := by
    intro i hi e
    rcases Nat.lt_or_ge (who B s) (bN B) with q | q
    · have h9 : bP B (who B s) = s := of_decide_eq_true (fst1_is (p := fun i => decide (bP B i = s)) q)
      exact ⟨q, hW.2.2.2 i _ hi q (by rw [e, h9]) (by omega)⟩
    · have := fst1_none.mp (show who B s = bN B by omega) i hi
      rw [e] at this
      simp at this
  have hsp := (hW.2.2.1 p hp).2.1
  refine ⟨fun q hne => ?_, fun q => ?_⟩
  · have h9 : bP B (who B s) = s := of_decide_eq_true (fst1_is (p := fun i => decide (bP B i = s)) q)
    have hsw := (hW.2.2.1 _ q).2.1
    constructor
    · apply Bool.eq_iff_iff.mpr
      unfold ownB
      rw [occ_iff]
      simp only [Bool.and_eq_true, decide_eq_true_eq]
      constructor
      · rintro ⟨i, h1, ⟨h2, h3⟩, h4⟩
        rw [← (uniq i h1 h4).2]; exact h3
      · intro h3; exact ⟨_, q, ⟨hne, h3⟩, h9⟩
    · apply Bool.eq_iff_iff.mpr
      unfold foeB
      rw [occ_iff]
      simp only [Bool.and_eq_true, decide_eq_true_eq, Bool.not_eq_true', decide_eq_false_iff_not]
      constructor
      · rintro ⟨i, h1, ⟨h2, h3⟩, h4⟩
        rw [← (uniq i h1 h4).2]; omega
      · intro h3; exact ⟨_, q, ⟨hne, by omega⟩, h9⟩
  · constructor
    · cases hc : ownB B p s with
      | false => rfl
      | true =>
        obtain ⟨i, h1, h2, h4⟩ := occ_iff.mp hc
        simp only [Bool.and_eq_true, decide_eq_true_eq] at h2
        obtain ⟨u1, u2⟩ := uniq i h1 h4
        exact absurd (u2.trans (q u1)) h2.1
    · cases hc : foeB B p s with
      | false => rfl
      | true =>
        obtain ⟨i, h1, h2, h4⟩ := occ_iff.mp hc
        simp only [Bool.and_eq_true, decide_eq_true_eq] at h2
        obtain ⟨u1, u2⟩ := uniq i h1 h4
        exact absurd (u2.trans (q u1)) h2.1
