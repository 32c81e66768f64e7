/-! isOpen, canGo, canGoNow, goesOf -/
theorem goC_self : ∀ k, k ≤ 5 → ∀ sd, sd ≤ 1 → ∀ f, f < 25 → besN f f = false ∧ (∀ d, d < 8 → stp f (jmpX d) (jmpY d) ≠ f) ∧ stp f 0 (pup sd) ≠ f ∧ stp f (-1) (pup sd) ≠ f ∧ stp f 1 (pup sd) ≠ f := by decide +kernel
theorem goB_self {B : sBd} (hW : WF B) {p f : Nat} (hp : p < bN B) (hf : f < 25) : goB B p f f = false := by
  have hw := hW.2.2.1 p hp
  obtain ⟨h1, h2, h3, h4, h5⟩ := goC_self (bK B p) hw.1 (bS B p) hw.2.1 f hf
  have ray : ∀ lo n, lo + n ≤ 8 → ((List.range n).any fun d => rayB (fun s => ownB B p s || foeB B p s) (lo + d) 4 f f) = false := by
    intro lo n hn
    rw [ray_open B p hf hf hn]
    simp
  have r0 := ray 0 8 (by omega)
  have r1 := ray 0 4 (by omega)
  have r2 := ray 4 4 (by omega)
  simp only [Nat.zero_add] at r0 r1
  unfold goB goC
  split
  · rw [h1]; rfl
  · rw [r0]; rfl
  · rw [r1]; rfl
  · rw [r2]; rfl
  · have : ((List.range 8).any fun d => decide (stp f (jmpX d) (jmpY d) = f)) = false := by
      rw [List.any_eq_false]
      intro d hd
      have := h2 d (List.mem_range.mp hd)
      simp [this]
    rw [this]; rfl
  · simp [h3, h4, h5]
section
variable {h : rb_H} {o a : Nat} {B : sBd}
theorem M_isOpen (hR : RM h a B) (hW : WF B) {p f t : Nat} (hp : p < bN B) (hf : f < 25) (ht : t < 25) (hne : f ≠ t) (hal : alN f t = true) : fM_isOpen a (nI p) (nI f) (nI t) h = some (openB B p f t) := by
  have h8 := hW.1
  obtain ⟨⟨a1, a2, a3, a4, -⟩, a5⟩ := al_fwd f hf t ht hne hal
  obtain ⟨m1, m2⟩ := M_step f hf t ht hne hal
  unfold fM_isOpen fM_isOpen_0
  simp only [rb_lt, m1]
  have hD := dstN f t
  -- the first square that another one stands on
  have body : ∀ i, 1 ≤ i → i < dstN f t → fM_isOpen_37b a (nI p) (nI t) (fJI_signum (rb_rem (nI t) 5 - rb_rem (nI f) 5)) (fJI_signum (nI t / 5 - nI f / 5)) (nI (itN (dirN f t) i f)) h = if (ownB B p (itN (dirN f t) i f) || foeB B p (itN (dirN f t) i f)) = true then some (.inr (.inl ())) else some (.inl (nI (itN (dirN f t) (i + 1) f))) := by
    intro i hi1 hi2
    obtain ⟨b1, b2⟩ := a5 i (by omega) (by omega)
    have b2 := b2 hi2
    unfold fM_isOpen_37b fM_isOpen_68l37
    rw [if_neg (fun z => b2 ((nI_eq (by omega) (by omega)).mp z)), M_on hR hW (by omega), m2 i (by omega) hi2]
    obtain ⟨w1, w2⟩ := ownfoe hW hp b1
    by_cases q : who B (itN (dirN f t) i f) < bN B
    · rw [if_pos q]
      by_cases q2 : who B (itN (dirN f t) i f) = p
      · obtain ⟨c1, c2⟩ := w2 (fun _ => q2)
        rw [c1, c2, q2]
        have : ¬ nI p = (-1 : Int32) := fun z => absurd (z ▸ nI_pos (n := p) (by omega)) (by decide)
        simp [this]
      · obtain ⟨c1, c2⟩ := w1 q q2
        have e1 : ¬ nI (who B (itN (dirN f t) i f)) = (-1 : Int32) := fun z => absurd (z ▸ nI_pos (n := who B (itN (dirN f t) i f)) (by omega)) (by decide)
        have e2 : ¬ nI (who B (itN (dirN f t) i f)) = nI p := fun z => q2 ((nI_eq (by omega) (by omega)).mp z)
        rw [c1, c2]
        simp [e1, e2]
    · obtain ⟨c1, c2⟩ := w2 (fun z => absurd z q)
      rw [if_neg q, c1, c2]
      simp
  by_cases hop : openB B p f t = true
  · rw [hop]
    refine rb_runB (fun k => nI (itN (dirN f t) (k + 1) f)) (dstN f t - 1) (.inr ()) rfl (by omega) (fun k hk => ?_) ?_ rfl
    · dsimp only
      rw [body (k + 1) (by omega) (by omega)]
      have := List.all_eq_true.mp hop (k + 1) (List.mem_range.mpr (by omega))
      simp only [Nat.add_eq_zero_iff, Nat.one_ne_zero, and_false, decide_false, Bool.false_or, Bool.not_eq_true'] at this
      rw [this]
      rfl
    · dsimp only
      rw [show dstN f t - 1 + 1 = dstN f t by omega, a4]
      unfold fM_isOpen_37b
      rw [if_pos rfl]
  · have hop : openB B p f t = false := by cases hc : openB B p f t <;> simp_all
    rw [hop]
    have hex : ∃ i, i < dstN f t ∧ ¬ ((decide (i = 0) || !(ownB B p (itN (dirN f t) i f) || foeB B p (itN (dirN f t) i f))) = true) := by
      unfold openB at hop
      rw [List.all_eq_false] at hop
      obtain ⟨i, hi, hn⟩ := hop
      exact ⟨i, List.mem_range.mp hi, hn⟩
    obtain ⟨i, hi, hbad, hfirst⟩ := fb_first hex
    have hi1 : 1 ≤ i := by
      rcases Nat.eq_zero_or_pos i with z | z
      · subst z; simp at hbad
      · exact z
    refine rb_runB (fun k => nI (itN (dirN f t) (k + 1) f)) (i - 1) (.inl ()) rfl (by omega) (fun k hk => ?_) ?_ rfl
    · dsimp only
      rw [body (k + 1) (by omega) (by omega)]
      have := Classical.not_not.mp (hfirst (k + 1) (by omega))
      simp only [Nat.add_eq_zero_iff, Nat.one_ne_zero, and_false, decide_false, Bool.false_or, Bool.not_eq_true'] at this
      rw [this]
      rfl
    · dsimp only
      rw [show i - 1 + 1 = i by omega, body i hi1 hi]
      have hi0 : ¬ i = 0 := by omega
      simp only [hi0, decide_false, Bool.false_or, Bool.not_eq_true', Bool.not_eq_false] at hbad
      rw [if_pos hbad]
end
