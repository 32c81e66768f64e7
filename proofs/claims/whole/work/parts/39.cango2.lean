/-! isOpen, canGo, canGoNow, goesOf -/
theorem bits_succ (p : Nat → Bool) (k : Nat) : bits p (k + 1) = (bits p k ||| (if p k = true then rb_shl 1 (nI k) else 0)) := rfl
def slfC (f : Nat) : Bool := !besN f f && ((List.range 8).all fun d => decide (stp f (jmpX d) (jmpY d) ≠ f)) && (List.range 2).all fun sd => decide (stp f 0 (pup sd) ≠ f) && decide (stp f (-1) (pup sd) ≠ f) && decide (stp f 1 (pup sd) ≠ f)
theorem slfC_all : ∀ f, f < 25 → slfC f = true := by decide +kernel
theorem goC_self (sd : Nat) (hsd : sd ≤ 1) (f : Nat) (hf : f < 25) : besN f f = false ∧ (∀ d, d < 8 → stp f (jmpX d) (jmpY d) ≠ f) ∧ stp f 0 (pup sd) ≠ f ∧ stp f (-1) (pup sd) ≠ f ∧ stp f 1 (pup sd) ≠ f := by
  have h := slfC_all f hf
  unfold slfC at h
  simp only [Bool.and_eq_true, List.all_eq_true, List.mem_range, decide_eq_true_eq, Bool.not_eq_true'] at h
  obtain ⟨⟨h1, h2⟩, h3⟩ := h
  have h3 := h3 sd (by omega)
  exact ⟨h1, h2, h3.1.1, h3.1.2, h3.2⟩
theorem goB_self {B : sBd} (hW : WF B) {p f : Nat} (hp : p < bN B) (hf : f < 25) : goB B p f f = false := by
  have hw := hW.2.2.1 p hp
  obtain ⟨h1, h2, h3, h4, h5⟩ := goC_self (bS B p) hw.2.1 f hf
  have ray : ∀ lo n, lo + n ≤ 8 → ((List.range n).any fun d => rayB (fun s => ownB B p s || foeB B p s) (lo + d) 4 f f) = false := by
    intro lo n hn
    rw [ray_open B p hf hf hn]
    simp
  have r0 := ray 0 8 (by omega)
  have r1 := ray 0 4 (by omega)
  have r2 := ray 4 4 (by omega)
  simp only [Nat.zero_add] at r0 r1
  unfold goB goC
  split
  · rw [h1]; rfl
  · rw [r0]; rfl
  · rw [r1]; rfl
  · rw [r2]; rfl
  · have : ((List.range 8).any fun d => decide (stp f (jmpX d) (jmpY d) = f)) = false := by
      rw [List.any_eq_false]
      intro d hd
      have := h2 d (List.mem_range.mp hd)
      simp [this]
    rw [this]; rfl
  · simp [h3, h4, h5]
noncomputable def cgT (f t : Nat) : Bool := decide (f = t) || (decide (besN f t = (decide (adx f t ≤ 1) && decide (ady f t ≤ 1))) && decide (((List.range 8).any fun d => decide (stp f (jmpX d) (jmpY d) = t)) = decide (adx f t * ady f t = 2)) && decide (decide (stp f 0 1 = t) = (decide (nI t / 5 - nI f / 5 = 1) && decide (adx f t = 0))) && decide ((decide (stp f (-1) 1 = t) || decide (stp f 1 1 = t)) = (decide (nI t / 5 - nI f / 5 = 1) && decide (adx f t = 1))) && decide (decide (stp f 0 (-1) = t) = (decide (nI t / 5 - nI f / 5 = -1) && decide (adx f t = 0))) && decide ((decide (stp f (-1) (-1) = t) || decide (stp f 1 (-1) = t)) = (decide (nI t / 5 - nI f / 5 = -1) && decide (adx f t = 1))))
theorem cgT_chk : ∀ f, f < 25 → ∀ t, t < 25 → cgT f t = true := by
  unfold cgT; decide +kernel
theorem cgT_all : ∀ f, f < 25 → ∀ t, t < 25 → f ≠ t → besN f t = (decide (adx f t ≤ 1) && decide (ady f t ≤ 1)) ∧ ((List.range 8).any fun d => decide (stp f (jmpX d) (jmpY d) = t)) = decide (adx f t * ady f t = 2) ∧ (∀ _ : Nat, decide (stp f 0 (pup 0) = t) = (decide (nI t / 5 - nI f / 5 = 1) && decide (adx f t = 0)) ∧ (decide (stp f (-1) (pup 0) = t) || decide (stp f 1 (pup 0) = t)) = (decide (nI t / 5 - nI f / 5 = 1) && decide (adx f t = 1))) ∧ (∀ _ : Nat, decide (stp f 0 (pup 1) = t) = (decide (nI t / 5 - nI f / 5 = -1) && decide (adx f t = 0)) ∧ (decide (stp f (-1) (pup 1) = t) || decide (stp f 1 (pup 1) = t)) = (decide (nI t / 5 - nI f / 5 = -1) && decide (adx f t = 1))) := by
  intro f hf t ht hne
  have h := cgT_chk f hf t ht
  unfold cgT at h
  simp only [hne, decide_false, Bool.false_or, Bool.and_eq_true, decide_eq_true_eq] at h
  obtain ⟨⟨⟨⟨⟨h1, h2⟩, h3⟩, h4⟩, h5⟩, h6⟩ := h
  exact ⟨h1, h2, fun _ => ⟨h3, h4⟩, fun _ => ⟨h5, h6⟩⟩
section
variable {h : rb_H} {o a : Nat} {B : sBd}
theorem M_isOpen (hR : RM h a B) (hW : WF B) {p f t : Nat} (hp : p < bN B) (hf : f < 25) (ht : t < 25) (hne : f ≠ t) (hal : alN f t = true) : fM_isOpen a (nI p) (nI f) (nI t) h = some (openB B p f t) := by
  have h8 := hW.1
  obtain ⟨⟨a1, a2, a3, a4, -⟩, a5⟩ := al_fwd f hf t ht hne hal
  obtain ⟨m1, m2⟩ := M_step f hf t ht hne hal
  unfold fM_isOpen fM_isOpen_0
  simp only [rb_lt, m1]
  have hD := dstN f t
  -- the first square that another one stands on
  have body : ∀ i, 1 ≤ i → i < dstN f t → fM_isOpen_37b a (nI p) (nI t) (fJI_signum (rb_rem (nI t) 5 - rb_rem (nI f) 5)) (fJI_signum (nI t / 5 - nI f / 5)) (nI (itN (dirN f t) i f)) h = if (ownB B p (itN (dirN f t) i f) || foeB B p (itN (dirN f t) i f)) = true then some (.inr (.inl ())) else some (.inl (nI (itN (dirN f t) (i + 1) f))) := by
    intro i hi1 hi2
    obtain ⟨b1, b2⟩ := a5 i (by omega) (by omega)
    have b2 := b2 hi2
    unfold fM_isOpen_37b fM_isOpen_68l37
    rw [if_neg (fun z => b2 ((nI_eq (by omega) (by omega)).mp z)), M_on hR hW (by omega), m2 i (by omega) hi2]
    obtain ⟨w1, w2⟩ := ownfoe hW hp b1
    by_cases q : who B (itN (dirN f t) i f) < bN B
    · rw [if_pos q]
      by_cases q2 : who B (itN (dirN f t) i f) = p
      · obtain ⟨c1, c2⟩ := w2 (fun _ => q2)
        rw [c1, c2, q2]
        have : ¬ nI p = (-1 : Int32) := fun z => absurd (z ▸ nI_pos (n := p) (by omega)) (by decide)
        simp [this]
      · obtain ⟨c1, c2⟩ := w1 q q2
        have e1 : ¬ nI (who B (itN (dirN f t) i f)) = (-1 : Int32) := fun z => absurd (z ▸ nI_pos (n := who B (itN (dirN f t) i f)) (by omega)) (by decide)
        have e2 : ¬ nI (who B (itN (dirN f t) i f)) = nI p := fun z => q2 ((nI_eq (by omega) (by omega)).mp z)
        rw [c1, c2]
        simp [e1, e2]
    · obtain ⟨c1, c2⟩ := w2 (fun z => absurd z q)
      rw [if_neg q, c1, c2]
      simp
  by_cases hop : openB B p f t = true
  · rw [hop]
    refine rb_runB (fun k => nI (itN (dirN f t) (k + 1) f)) (dstN f t - 1) (.inr ()) rfl (by omega) (fun k hk => ?_) ?_ rfl
    · rw [body (k + 1) (by omega) (by omega)]
      have := List.all_eq_true.mp hop (k + 1) (List.mem_range.mpr (by omega))
      simp only [Nat.add_eq_zero_iff, Nat.one_ne_zero, and_false, decide_false, Bool.false_or, Bool.not_eq_true'] at this
      rw [this]
      rfl
    · rw [show dstN f t - 1 + 1 = dstN f t by omega, a4]
      unfold fM_isOpen_37b
      rw [if_pos rfl]
  · have hop : openB B p f t = false := by cases hc : openB B p f t <;> simp_all
    rw [hop]
    have hex : ∃ i, i < dstN f t ∧ ¬ ((decide (i = 0) || !(ownB B p (itN (dirN f t) i f) || foeB B p (itN (dirN f t) i f))) = true) := by
      unfold openB at hop
      rw [List.all_eq_false] at hop
      obtain ⟨i, hi, hn⟩ := hop
      exact ⟨i, List.mem_range.mp hi, hn⟩
    obtain ⟨i, hi, hbad, hfirst⟩ := fb_first hex
    have hi1 : 1 ≤ i := by
      rcases Nat.eq_zero_or_pos i with z | z
      · subst z; simp at hbad
      · exact z
    refine rb_runB (fun k => nI (itN (dirN f t) (k + 1) f)) (i - 1) (.inl ()) rfl (by omega) (fun k hk => ?_) ?_ rfl
    · rw [body (k + 1) (by omega) (by omega)]
      have := Classical.not_not.mp (hfirst (k + 1) (by omega))
      simp only [Nat.add_eq_zero_iff, Nat.one_ne_zero, and_false, decide_false, Bool.false_or, Bool.not_eq_true'] at this
      rw [this]
      rfl
    · rw [show i - 1 + 1 = i by omega, body i hi1 hi]
      have hi0 : ¬ i = 0 := by omega
      simp only [hi0, decide_false, Bool.false_or, Bool.not_eq_true', Bool.not_eq_false] at hbad
      rw [if_pos hbad]
theorem M_canGo_64 (hR : RM h a B) (hW : WF B) {p f t : Nat} (hp : p < bN B) (hf : f < 25) (ht : t < 25) (hne : f ≠ t) (ho : ownB B p t = false) : fM_canGo_64 a (nI p) (nI f) (nI t) (if foeB B p t = true then 1 else 0) h = some (goB B p f t) := by
  have h8 := hW.1
  have hw := hW.2.2.1 p hp
  obtain ⟨d1, d2, d3, d4⟩ := M_dx f hf t ht
  have ray : ∀ lo n, lo + n ≤ 8 → ((List.range n).any fun d => rayB (fun s => ownB B p s || foeB B p s) (lo + d) 4 f t) = (alN f t && decide (lo ≤ dirN f t ∧ dirN f t < lo + n) && openB B p f t) := by
    intro lo n hn
    rw [ray_open B p hf ht hn]
    simp [hne]
  have r0 := ray 0 8 (by omega)
  have r1 := ray 0 4 (by omega)
  have r2 := ray 4 4 (by omega)
  simp only [Nat.zero_add] at r0 r1
  obtain ⟨g1, g2, g3, g4⟩ := cgT_all f hf t ht hne
  have z0 : ∀ n, n ≤ 4 → (nI n = 0 ↔ n = 0) := fun n hn => nI_eq (a := n) (b := 0) (by omega) (by omega)
  have zz : nI (adx f t) = nI (ady f t) ↔ adx f t = ady f t := nI_eq (by omega) (by omega)
  -- the flags
  have fl : fM_canGo_64 a (nI p) (nI f) (nI t) (if foeB B p t = true then 1 else 0) h = fM_canGo_121 a (nI p) (nI f) (nI t) (if foeB B p t = true then 1 else 0) (nI (adx f t)) (nI (ady f t)) (if adx f t = 0 ∨ ady f t = 0 then 1 else 0) (if adx f t = ady f t then 1 else 0) h := by
    unfold fM_canGo_64 fM_canGo_102 fM_canGo_107
    simp only [d1, d2, z0 _ d3, z0 _ d4, zz]
    have hor1 : adx f t = 0 → (adx f t = 0 ∨ ady f t = 0) := Or.inl
    have hor2 : ady f t = 0 → (adx f t = 0 ∨ ady f t = 0) := Or.inr
    by_cases q3 : adx f t = ady f t
    · simp only [if_pos q3]
      by_cases q1 : adx f t = 0
      · simp only [if_pos q1, if_pos (hor1 q1)]
      · by_cases q2 : ady f t = 0
        · simp only [if_neg q1, if_pos q2, if_pos (hor2 q2)]
        · simp only [if_neg q1, if_neg q2, if_neg (not_or.mpr ⟨q1, q2⟩)]
    · simp only [if_neg q3]
      by_cases q1 : adx f t = 0
      · simp only [if_pos q1, if_pos (hor1 q1)]
      · by_cases q2 : ady f t = 0
        · simp only [if_neg q1, if_pos q2, if_pos (hor2 q2)]
        · simp only [if_neg q1, if_neg q2, if_neg (not_or.mpr ⟨q1, q2⟩)]
  rw [fl]
  unfold fM_canGo_121 goB goC fM_canGo_188
  have eqk : ∀ m : Nat, m < 100 → (nI (bK B p) = nI m ↔ bK B p = m) := fun m hm => nI_eq (by omega) (by omega)
  have e0 := eqk 0 (by omega)
  have e1 := eqk 1 (by omega)
  have e2 := eqk 2 (by omega)
  have e3 := eqk 3 (by omega)
  have e4 := eqk 4 (by omega)
  have opn : alN f t = true → fM_isOpen a (nI p) (nI f) (nI t) h = some (openB B p f t) := fun hal => M_isOpen hR hW hp hf ht hne hal
  simp only [cl_n (show p < 2 ^ 31 by omega), if_neg (oob_n (show p < 27 by omega) (by omega)), if_neg (oob_n (show p < 8 by omega) (by omega)), (hR.2.2.2.2 p hp).1, (hR.2.2.2.2 p hp).2.1, ho, Bool.not_false, Bool.and_true, Bool.false_or, r0, r1, r2]
  show (if nI (bK B p) = nI 0 then _ else if nI (bK B p) = nI 1 then _ else if nI (bK B p) = nI 2 then _ else if nI (bK B p) = nI 3 then _ else if nI (bK B p) = nI 4 then _ else _) = _
  simp only [e0, e1, e2, e3, e4]
  have al1 : ∀ c, alN f t = true → alN f t = true ∧ c → c := fun _ _ z => z.2
  rcases (show bK B p = 0 ∨ bK B p = 1 ∨ bK B p = 2 ∨ bK B p = 3 ∨ bK B p = 4 ∨ bK B p = 5 by omega) with e | e | e | e | e | e <;> rw [e]
  · rw [if_pos rfl, g1]
    have o1 : (1 : Int32) < nI (adx f t) ↔ 1 < adx f t := nI_ltI (a := 1) (by omega) (by omega)
    have o2 : (1 : Int32) < nI (ady f t) ↔ 1 < ady f t := nI_ltI (a := 1) (by omega) (by omega)
    simp only [o1, o2]
    by_cases q1 : 1 < adx f t <;> by_cases q2 : 1 < ady f t <;> simp [q1, q2] <;> omega
  · rw [if_neg (by omega), if_pos rfl]
    by_cases hal : alN f t = true
    · rw [opn hal]
      obtain ⟨⟨a1, a2, a3, a4, a5, a6⟩, -⟩ := al_fwd f hf t ht hne hal
      have hd : decide (0 ≤ dirN f t ∧ dirN f t < 8) = true := by simp; omega
      rw [hd, hal]
      have hal' := hal
      unfold alN at hal'
      simp only [Bool.or_eq_true, decide_eq_true_eq] at hal'
      by_cases q1 : adx f t = 0 ∨ ady f t = 0
      · cases ho : openB B p f t <;> simp [q1, ho]
      · have q2 : adx f t = ady f t := by rcases hal' with z | z; exact absurd z q1; exact z
        cases ho : openB B p f t <;> simp [q1, q2, ho]
    · have hal : alN f t = false := by cases hc : alN f t <;> simp_all
      have hal' := hal
      unfold alN at hal'
      simp only [Bool.or_eq_false_iff, decide_eq_false_iff_not] at hal'
      simp [hal, hal'.1.1, hal'.1.2, hal'.2]
  · rw [if_neg (by omega), if_neg (by omega), if_pos rfl]
    by_cases hal : alN f t = true
    · rw [opn hal]
      obtain ⟨⟨a1, a2, a3, a4, a5, a6⟩, -⟩ := al_fwd f hf t ht hne hal
      have a5 : (adx f t = 0 ∨ ady f t = 0) ↔ dirN f t < 4 := by
        have := Bool.eq_iff_iff.mp a5
        simpa using this
      by_cases q1 : dirN f t < 4
      · have q2 := a5.mpr q1
        cases ho : openB B p f t <;> simp [q1, q2, ho, hal]
      · have q2 : ¬ (adx f t = 0 ∨ ady f t = 0) := fun z => q1 (a5.mp z)
        simp [q1, q2]
    · have hal : alN f t = false := by cases hc : alN f t <;> simp_all
      have hal' := hal
      unfold alN at hal'
      simp only [Bool.or_eq_false_iff, decide_eq_false_iff_not] at hal'
      simp [hal, hal'.1.1, hal'.1.2]
  · rw [if_neg (by omega), if_neg (by omega), if_neg (by omega), if_pos rfl]
    by_cases hal : alN f t = true
    · rw [opn hal]
      obtain ⟨⟨a1, a2, a3, a4, a5, a6⟩, -⟩ := al_fwd f hf t ht hne hal
      have a6 : (adx f t = ady f t) ↔ 4 ≤ dirN f t := by
        have := Bool.eq_iff_iff.mp a6
        simpa using this
      by_cases q1 : 4 ≤ dirN f t
      · have q2 := a6.mpr q1
        cases ho : openB B p f t <;> simp [q1, q2, ho, hal, a3]
      · have q2 : ¬ (adx f t = ady f t) := fun z => q1 (a6.mp z)
        simp [q1, q2]
    · have hal : alN f t = false := by cases hc : alN f t <;> simp_all
      have hal' := hal
      unfold alN at hal'
      simp only [Bool.or_eq_false_iff, decide_eq_false_iff_not] at hal'
      simp [hal, hal'.2]
  · rw [if_neg (by omega), if_neg (by omega), if_neg (by omega), if_neg (by omega), if_pos rfl, g2]
    have : nI (adx f t) * nI (ady f t) = 2 ↔ adx f t * ady f t = 2 := by
      have hm : ∀ x, x < 5 → ∀ y, y < 5 → (nI x * nI y = 2 ↔ x * y = 2) := by decide +kernel
      exact hm _ (by omega) _ (by omega)
    by_cases q : adx f t * ady f t = 2 <;> simp [this, q]
  · rw [if_neg (by omega), if_neg (by omega), if_neg (by omega), if_neg (by omega), if_neg (by omega)]
    unfold fM_canGo_289 fM_canGo_304
    have y1 : nI (adx f t) = 1 ↔ adx f t = 1 := nI_eq (a := adx f t) (b := 1) (by omega) (by omega)
    have y0 := z0 _ d3
    have n10 : ¬ (1 : Int32) = 0 := by decide
    rcases (show bS B p = 0 ∨ bS B p = 1 by omega) with s | s
    · simp only [s]
      rw [if_pos (show nI 0 = (0 : Int32) from rfl), (g3 0).1, (g3 0).2]
      cases hq : foeB B p t <;> simp [y0, y1, n10]
      · by_cases c1 : nI t / 5 - nI f / 5 = 1 <;> by_cases c2 : adx f t = 0 <;> simp [c1, c2]
      · by_cases c1 : nI t / 5 - nI f / 5 = 1 <;> by_cases c2 : adx f t = 1 <;> simp [c1, c2]
    · simp only [s]
      rw [if_neg (show ¬ nI 1 = (0 : Int32) by decide), (g4 0).1, (g4 0).2]
      cases hq : foeB B p t <;> simp [y0, y1, n10]
      · by_cases c1 : nI t / 5 - nI f / 5 = -1 <;> by_cases c2 : adx f t = 0 <;> simp [c1, c2]
      · by_cases c1 : nI t / 5 - nI f / 5 = -1 <;> by_cases c2 : adx f t = 1 <;> simp [c1, c2]
theorem goB_own {B : sBd} {p f t : Nat} (hf : foeB B p t = false) (ho : ownB B p t = true) : goB B p f t = false := by
  unfold goB goC
  split <;> simp [ho, hf]
theorem M_canGo (hR : RM h a B) (hW : WF B) {p f t : Nat} (hp : p < bN B) (hf : f < 25) (ht : t < 25) : fM_canGo a (nI p) (nI f) (nI t) h = some (goB B p f t) := by
  have h8 := hW.1
  unfold fM_canGo fM_canGo_0
  by_cases hne : f = t
  · subst hne
    rw [if_pos rfl, goB_self hW hp hf]
  · rw [if_neg (fun z => hne ((nI_eq (by omega) (by omega)).mp z)), M_on hR hW (show t < 100 by omega)]
    obtain ⟨w1, w2⟩ := ownfoe hW hp ht
    unfold fM_canGo_47 fM_canGo_63
    by_cases q : who B t < bN B
    · rw [if_pos q]
      have e1 : ¬ nI (who B t) = (-1 : Int32) := fun z => absurd (z ▸ nI_pos (n := who B t) (by omega)) (by decide)
      simp only [Option.bind_some, if_neg e1]
      by_cases q2 : who B t = p
      · obtain ⟨c1, c2⟩ := w2 (fun _ => q2)
        have := M_canGo_64 hR hW hp hf ht hne c1
        rw [c2, if_neg (by decide)] at this
        rw [q2, if_pos rfl, if_pos rfl, this]
      · obtain ⟨c1, c2⟩ := w1 q q2
        have e2 : ¬ nI (who B t) = nI p := fun z => q2 ((nI_eq (by omega) (by omega)).mp z)
        rw [if_neg e2, if_neg e2]
        simp only [cl_n (show p < 2 ^ 31 by omega), cl_n (show who B t < 2 ^ 31 by omega), if_neg (oob_n (show p < 8 by omega) (by omega)), if_neg (oob_n (show who B t < 8 by omega) (by omega)), (hR.2.2.2.2 p hp).2.1, (hR.2.2.2.2 _ q).2.1]
        have sp := (hW.2.2.1 p hp).2.1
        have sw := (hW.2.2.1 _ q).2.1
        by_cases e3 : bS B (who B t) = bS B p
        · rw [if_pos (by rw [e3]), goB_own (by rw [c2]; simp [e3]) (by rw [c1]; simp [e3])]
        · rw [if_neg (fun z => e3 ((nI_eq (by omega) (by omega)).mp z))]
          have := M_canGo_64 hR hW hp hf ht hne (by rw [c1]; simp [e3])
          rw [c2] at this
          rw [← this]
          simp [e3]
    · obtain ⟨c1, c2⟩ := w2 (fun z => absurd z q)
      rw [if_neg q]
      have := M_canGo_64 hR hW hp hf ht hne c1
      rw [c2, if_neg (by decide)] at this
      simp only [Option.bind_some, if_true]
      exact this
theorem M_canGoNow (hR : RM h a B) (hW : WF B) {p t : Nat} (hp : p < bN B) (ht : t < 25) : fM_canGoNow a (nI p) (nI t) h = some (decide (bP B p ≠ 25) && goB B p (bP B p) t) := by
  have h8 := hW.1
  have hw := hW.2.2.1 p hp
  unfold fM_canGoNow fM_canGoNow_0
  rw [M_isOut hR hW hp]
  by_cases e : bP B p = 25
  · simp [e]
  · simp only [Option.bind_some, nI8, cl_n (show 8 + p < 2 ^ 31 by omega), if_neg (oob_n (show 8 + p < 27 by omega) (by omega)), (hR.2.2.2.2 p hp).2.2.1]
    rw [M_canGo hR hW hp (by omega) ht]
    simp only [Option.bind_some]
    cases goB B p (bP B p) t <;> simp [e]
theorem M_goesOf (hR : RM h a B) (hW : WF B) {p : Nat} (hp : p < bN B) : fM_goesOf a (nI p) h = some (bits (fun t => decide (bP B p ≠ 25) && goB B p (bP B p) t) 25) := by
  unfold fM_goesOf fM_goesOf_0
  refine rb_runB (fun k => (bits (fun t => decide (bP B p ≠ 25) && goB B p (bP B p) t) k, nI k)) 25 (bits (fun t => decide (bP B p ≠ 25) && goB B p (bP B p) t) 25) rfl (by omega) (fun k hk => ?_) rfl rfl
  show fM_goesOf_5b a (nI p) _ (nI k) h = _
  unfold fM_goesOf_5b fM_goesOf_32l5
  rw [if_neg (show ¬ (25 : Int32) ≤ nI k from nI_ge (b := 25) hk (by omega)), M_canGoNow hR hW hp hk]
  simp only [Option.bind_some, nI_1]
  rw [bits_succ]
  cases hq : (decide (bP B p ≠ 25) && goB B p (bP B p) k)
  · rw [if_neg (by decide), if_neg (by decide)]
  · rw [if_pos rfl, if_pos rfl]
end
