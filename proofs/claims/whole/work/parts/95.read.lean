/-! the whole text read; what has been read worked out -/
def sgX (X : List Nat) (p : Nat) : Int32 := nI (X.getD p 0)
noncomputable def mGo (f : Nat → Int32) : Nat → Nat → sM → Nat ⊕ sM
  | 0, _, s => .inr s
  | k + 1, p, s =>
    match mTake s (f p) with
    | none => .inl p
    | some s' => mGo f k (p + 1) s'
theorem mGo_none {f : Nat → Int32} {k p : Nat} {s : sM} (h : mTake s (f p) = none) : mGo f (k + 1) p s = .inl p := by
  show (match mTake s (f p) with | none => (Sum.inl p : Nat ⊕ sM) | some s' => mGo f k (p + 1) s') = _
  rw [h]
theorem mGo_some {f : Nat → Int32} {k p : Nat} {s s' : sM} (h : mTake s (f p) = some s') : mGo f (k + 1) p s = mGo f k (p + 1) s' := by
  show (match mTake s (f p) with | none => (Sum.inl p : Nat ⊕ sM) | some s' => mGo f k (p + 1) s') = _
  rw [h]
def mS0 : sM := ([], [], 0, 0, true, fun _ => false)
theorem mTake_g {o w : List Int32} {d g : Nat} {n : Bool} {c : Nat → Bool} {x : Int32} {s' : sM} (hg : g ≤ 3) (h : mTake (o, w, d, g, n, c) x = some s') : s'.2.2.2.1 ≤ 3 := by
  unfold mTake at h
  dsimp only at h
  split at h
  · split at h
    · cases h; exact (by decide : (1 : Nat) ≤ 3)
    · split at h
      · cases h
      · split at h
        · cases h
        · unfold mDig at h
          split at h
          · cases h
          · cases h; show g + 1 ≤ 3; omega
  · split at h
    · split at h
      · cases h; exact Nat.zero_le _
      · split at h
        · split at h
          · cases h; exact Nat.zero_le _
          · cases h
        · split at h
          · cases h; exact Nat.zero_le _
          · cases h
    · split at h
      · split at h
        · cases h; exact Nat.zero_le _
        · cases h
      · split at h
        · cases h
        · split at h
          · split at h
            · cases h
            · cases h; exact Nat.zero_le _
          · cases h; exact Nat.zero_le _
section
variable {X : List Nat}
theorem rp_loop (hl : X.length ≤ 80) (hc : ∀ c, c ∈ X → c < 256) {lim : Nat} (h40 : lim ≤ 40) (hlim : lim ≤ X.length) : ∀ (k p : Nat) (o w : List Int32) (d g : Nat) (n : Bool) (c : Nat → Bool) (h : rb_H) (m : Nat), p + k = lim → TXc h X → rp_Q h o w d g n c → o.length + w.length ≤ p → d ≤ 4 → g ≤ 3 → k < m → ∃ r, rb_iter m (fun s => fU_read_44b 11 (nI lim) s.1 s.2) (nI p, h) = some r ∧ (∀ q, mGo (sgX X) k p (o, w, d, g, n, c) = .inl q → ∃ h', r = .inl (nI q, h') ∧ Ag [11, 12, 14, 15] h h') ∧ ∀ s', mGo (sgX X) k p (o, w, d, g, n, c) = .inr s' → ∃ h', r = .inr h' ∧ Ag [11, 12, 14, 15] h h' ∧ rp_Q h' s'.1 s'.2.1 s'.2.2.1 s'.2.2.2.1 s'.2.2.2.2.1 s'.2.2.2.2.2 ∧ s'.1.length + s'.2.1.length ≤ lim ∧ s'.2.2.1 ≤ 4
  | 0, p, o, w, d, g, n, c, h, m, hp, hX, hQ, hb, hd, hg, hm => by
    obtain ⟨m, rfl⟩ : ∃ k, m = k + 1 := ⟨m - 1, by omega⟩
    refine ⟨.inr h, rb_iter_inr ?_, (fun q e => by cases e), fun s' e => ?_⟩
    · unfold fU_read_44b
      exact if_pos (nI_le (by omega) (by omega))
    · cases e
      exact ⟨h, rfl, Ag_refl _ _, hQ, by dsimp only; omega, hd⟩
  | k + 1, p, o, w, d, g, n, c, h, m, hp, hX, hQ, hb, hd, hg, hm => by
    obtain ⟨m, rfl⟩ : ∃ k, m = k + 1 := ⟨m - 1, by omega⟩
    have hpX : p < X.length := by omega
    obtain ⟨b, h1, t1, t2, t3, t4⟩ := rp_take (k := X.getD p 0) hQ (by omega) hd (by omega) (hc _ (getD_mem hpX))
    have step : fU_read_44b 11 (nI lim) (nI p) h = if b = true then some (.inl (nI (p + 1), h1)) else some (.inr (.inl (nI p, h1))) := by
      unfold fU_read_44b
      rw [if_neg (nI_ge (by omega) (by omega)), rp_at hX hl hc hpX, Option.bind_some, t1, Option.bind_some, nI_1]
    cases e : mTake (o, w, d, g, n, c) (nI (X.getD p 0)) with
    | none =>
      rw [t3 e, if_neg (by decide)] at step
      refine ⟨.inl (nI p, h1), rb_iter_inr step, fun q z => ?_, fun s' z => ?_⟩
      · rw [mGo_none (f := sgX X) e] at z
        cases z
        exact ⟨h1, rfl, t2⟩
      · rw [mGo_none (f := sgX X) e] at z
        cases z
    | some s1 =>
      obtain ⟨b1, b2⟩ := t4 s1 e
      rw [b1, if_pos rfl] at step
      obtain ⟨l1, l2⟩ := mTake_len hd e
      have l3 := mTake_g hg e
      obtain ⟨o1, w1, d1, g1, n1, c1⟩ := s1
      obtain ⟨r, r1, r2, r3⟩ := rp_loop hl hc h40 hlim k (p + 1) o1 w1 d1 g1 n1 c1 h1 m (by omega) (TXc_ag hX t2 (by decide)) b2 (by dsimp only at l1; omega) l2 l3 (by omega)
      refine ⟨r, (rb_iter_inl step).trans r1, fun q z => ?_, fun s' z => ?_⟩
      · rw [mGo_some (f := sgX X) e] at z
        obtain ⟨h', z1, z2⟩ := r2 q z
        exact ⟨h', z1, Ag_trans t2 z2⟩
      · rw [mGo_some (f := sgX X) e] at z
        obtain ⟨h', z1, z2, z3⟩ := r3 s' z
        exact ⟨h', z1, Ag_trans t2 z2, z3⟩
theorem min40 {a : Nat} (h : a < 2 ^ 31) : rb_min (nI a) 40 = nI (min a 40) := by
  unfold rb_min
  by_cases c : 40 < a
  · rw [if_pos (show (40 : Int32) < nI a from nI_lt (a := 40) c h), Nat.min_eq_right (by omega)]; rfl
  · rw [if_neg (show ¬ (40 : Int32) < nI a from fun z => c ((nI_ltI (a := 40) (by omega) h).mp z)), Nat.min_eq_left (by omega)]
/-- where the reading ends badly -/
def mBad (X : List Nat) (s : sM) : Prop := 0 < X.length ∧ (s.2.2.2.2.1 = true ∨ 0 < s.2.2.1 ∨ 40 < X.length)
theorem rp_read {h : rb_H} (hX : TXc h X) (hl : X.length ≤ 80) (hc : ∀ c, c ∈ X → c < 256) : ∃ r h', fU_read 11 h = some (r, h') ∧ Ag [11, 12, 14, 15] h h' ∧ (∀ q, mGo (sgX X) (min X.length 40) 0 mS0 = .inl q → r = nI q) ∧ ∀ s', mGo (sgX X) (min X.length 40) 0 mS0 = .inr s' → (mBad X s' → r = nI (min X.length 40)) ∧ (¬ mBad X s' → r = -1 ∧ (mRel 1 s'.1 s'.2.1).1.length ≤ 40 ∧ rb_hF h' 11 5 = nI (mRel 1 s'.1 s'.2.1).1.length ∧ ∀ i, i < (mRel 1 s'.1 s'.2.1).1.length → rb_hI h' 12 i = (mRel 1 s'.1 s'.2.1).1.reverse.getD i 0) := by
  unfold fU_read fU_read_0
  have Q0 : rp_Q (rb_sI (rb_sF (rb_sF (rb_sF (rb_sF (rb_sF h 11 5 0) 11 6 0) 11 7 0) 11 8 0) 11 9 1) (11 + 4) 0 (vp_nar .boolean 0)) [] [] 0 0 true (fun _ => false) := by
    refine ⟨⟨?_, fun i hi => absurd hi (Nat.not_lt_zero _)⟩, ⟨?_, fun i hi => absurd hi (Nat.not_lt_zero _)⟩, ?_, ?_, ?_, fun i hi => ?_⟩
    · simp [hI_sI, hI_sJ, hI_sF, hI_sR, hI_cp, hJ_sI, hJ_sJ, hJ_sF, hJ_sR, hJ_cp, hF_sI, hF_sJ, hF_sF, hF_sR, hF_cp, hR_sI, hR_sJ, hR_sF, hR_sR, hR_cp]; rfl
    · simp [hI_sI, hI_sJ, hI_sF, hI_sR, hI_cp, hJ_sI, hJ_sJ, hJ_sF, hJ_sR, hJ_cp, hF_sI, hF_sJ, hF_sF, hF_sR, hF_cp, hR_sI, hR_sJ, hR_sF, hR_sR, hR_cp]; rfl
    · simp [hI_sI, hI_sJ, hI_sF, hI_sR, hI_cp, hJ_sI, hJ_sJ, hJ_sF, hJ_sR, hJ_cp, hF_sI, hF_sJ, hF_sF, hF_sR, hF_cp, hR_sI, hR_sJ, hR_sF, hR_sR, hR_cp]; rfl
    · simp [hI_sI, hI_sJ, hI_sF, hI_sR, hI_cp, hJ_sI, hJ_sJ, hJ_sF, hJ_sR, hJ_cp, hF_sI, hF_sJ, hF_sF, hF_sR, hF_cp, hR_sI, hR_sJ, hR_sF, hR_sR, hR_cp]; rfl
    · simp [hI_sI, hI_sJ, hI_sF, hI_sR, hI_cp, hJ_sI, hJ_sJ, hJ_sF, hJ_sR, hJ_cp, hF_sI, hF_sJ, hF_sF, hF_sR, hF_cp, hR_sI, hR_sJ, hR_sF, hR_sR, hR_cp]
    · have vn : vp_nar .boolean (0 : Int32) = 0 := by decide +kernel
      have : i = 0 := by omega
      subst this
      simp [hI_sI, hI_sJ, hI_sF, hI_sR, hI_cp, hJ_sI, hJ_sJ, hJ_sF, hJ_sR, hJ_cp, hF_sI, hF_sJ, hF_sF, hF_sR, hF_cp, hR_sI, hR_sJ, hR_sF, hR_sR, hR_cp, vn]
  have A0 : Ag [11, 12, 14, 15] h (rb_sI (rb_sF (rb_sF (rb_sF (rb_sF (rb_sF h 11 5 0) 11 6 0) 11 7 0) 11 8 0) 11 9 1) (11 + 4) 0 (vp_nar .boolean 0)) := Ag_sI (by decide) (Ag_sF (by decide) (Ag_sF (by decide) (Ag_sF (by decide) (Ag_sF (by decide) (Ag_sF (by decide) (Ag_refl _ _))))))
  generalize rb_sI (rb_sF (rb_sF (rb_sF (rb_sF (rb_sF h 11 5 0) 11 6 0) 11 7 0) 11 8 0) 11 9 1) (11 + 4) 0 (vp_nar .boolean 0) = h0 at Q0 A0 ⊢
  have X0 := TXc_ag hX A0 (by decide)
  have e40 : rb_min (rb_hF h0 1 1) 40 = nI (min X.length 40) := by rw [X0.1]; exact min40 (by omega)
  rw [e40]
  obtain ⟨r, r1, r2, r3⟩ := rp_loop hl hc (lim := min X.length 40) (by omega) (by omega) (min X.length 40) 0 [] [] 0 0 true (fun _ => false) h0 rb_fuel (by omega) X0 Q0 (Nat.le_refl _) (by omega) (by omega) (by rw [rb_fuel_eq]; omega)
  rw [show ((0 : Int32), h0) = (nI 0, h0) from rfl, r1, Option.bind_some]
  cases e : mGo (sgX X) (min X.length 40) 0 mS0 with
  | inl q =>
    obtain ⟨h', z1, z2⟩ := r2 q e
    subst z1
    exact ⟨nI q, h', rfl, Ag_trans A0 z2, fun q' z => (by cases z; rfl), fun s' z => nomatch z⟩
  | inr s' =>
    obtain ⟨h', z1, z2, z3, z4, z5⟩ := r3 s' e
    subst z1
    have Xh := TXc_ag X0 z2 (by decide)
    show ∃ r h'', (if nI (min X.length 40) ≤ 0 then fU_read_98 11 h' else if rb_hF h' 11 9 = 0 then if 0 < rb_hF h' 11 7 then some (nI (min X.length 40), h') else if rb_hF h' 1 1 ≤ 40 then fU_read_98 11 h' else some (nI (min X.length 40), h') else some (nI (min X.length 40), h')) = some (r, h'') ∧ _
    have good : ∃ h'', fU_read_98 11 h' = some (-1, h'') ∧ rp_Q h'' (mRel 1 s'.1 s'.2.1).1 (mRel 1 s'.1 s'.2.1).2 s'.2.2.1 s'.2.2.2.1 s'.2.2.2.2.1 s'.2.2.2.2.2 ∧ Ag [11, 12] h' h'' := by
      obtain ⟨h2, a1, a2, a3⟩ := rp_release 1 z3 (by omega)
      unfold fU_read_98
      rw [a1]
      exact ⟨h2, rfl, a2, a3⟩
    have el := mRel_len 1 s'.2.1 s'.1
    have bad : mBad X s' → ∃ r h'', some (nI (min X.length 40), h') = some (r, h'') ∧ Ag [11, 12, 14, 15] h h'' ∧ (∀ q, (Sum.inr s' : Nat ⊕ sM) = .inl q → r = nI q) ∧ ∀ s1, (Sum.inr s' : Nat ⊕ sM) = .inr s1 → (mBad X s1 → r = nI (min X.length 40)) ∧ (¬ mBad X s1 → r = -1 ∧ (mRel 1 s1.1 s1.2.1).1.length ≤ 40 ∧ rb_hF h'' 11 5 = nI (mRel 1 s1.1 s1.2.1).1.length ∧ ∀ i, i < (mRel 1 s1.1 s1.2.1).1.length → rb_hI h'' 12 i = (mRel 1 s1.1 s1.2.1).1.reverse.getD i 0) := fun hb =>
      ⟨_, _, rfl, Ag_trans A0 z2, (fun q z => nomatch z), fun s1 z => by cases z; exact ⟨fun _ => rfl, fun n => absurd hb n⟩⟩
    have fine : ¬ mBad X s' → ∃ r h'', fU_read_98 11 h' = some (r, h'') ∧ Ag [11, 12, 14, 15] h h'' ∧ (∀ q, (Sum.inr s' : Nat ⊕ sM) = .inl q → r = nI q) ∧ ∀ s1, (Sum.inr s' : Nat ⊕ sM) = .inr s1 → (mBad X s1 → r = nI (min X.length 40)) ∧ (¬ mBad X s1 → r = -1 ∧ (mRel 1 s1.1 s1.2.1).1.length ≤ 40 ∧ rb_hF h'' 11 5 = nI (mRel 1 s1.1 s1.2.1).1.length ∧ ∀ i, i < (mRel 1 s1.1 s1.2.1).1.length → rb_hI h'' 12 i = (mRel 1 s1.1 s1.2.1).1.reverse.getD i 0) := fun hb => by
      obtain ⟨h2, a1, a2, a3⟩ := good
      exact ⟨_, h2, a1, Ag_trans A0 (Ag_trans z2 (AgS (by decide) a3)), (fun q z => nomatch z), fun s1 z => by cases z; exact ⟨fun n => absurd n hb, fun _ => ⟨rfl, by omega, a2.1.1, a2.1.2⟩⟩⟩
    by_cases c0 : X.length = 0
    · rw [if_pos (show nI (min X.length 40) ≤ (0 : Int32) from nI_le (b := 0) (by omega) (by omega))]
      exact fine (fun z => by have := z.1; omega)
    · rw [if_neg (show ¬ nI (min X.length 40) ≤ (0 : Int32) from nI_ge (a := 0) (by omega) (by omega))]
      have q7 := z3.2.2.2.2.1
      by_cases c1 : s'.2.2.2.2.1 = true
      · rw [if_neg (fun z => by have := (rp_n0 q7).mp z; rw [c1] at this; cases this)]
        exact bad ⟨by omega, Or.inl c1⟩
      · rw [if_pos ((rp_n0 q7).mpr (by simpa using c1)), z3.2.2.1]
        by_cases c2 : 0 < s'.2.2.1
        · rw [if_pos (show (0 : Int32) < nI s'.2.2.1 from nI_lt (a := 0) c2 (by omega))]
          exact bad ⟨by omega, Or.inr (Or.inl c2)⟩
        · rw [if_neg (show ¬ (0 : Int32) < nI s'.2.2.1 from fun z => c2 ((nI_ltI (a := 0) (by omega) (by omega)).mp z)), Xh.1]
          by_cases c3 : 40 < X.length
          · rw [if_neg (show ¬ nI X.length ≤ (40 : Int32) from nI_ge (a := 40) c3 (by omega))]
            exact bad ⟨by omega, Or.inr (Or.inr c3)⟩
          · rw [if_pos (show nI X.length ≤ (40 : Int32) from nI_le (b := 40) (by omega) (by omega))]
            exact fine (fun z => z.2.elim c1 (fun z => z.elim c2 c3))
end
/-! what a code makes of the things -/
def xB (s a b : Int32) : Int32 := if s = 42 then a * b else if s = 43 then a + b else if s = 45 then a - b else if s = 60 then (if b ≤ a then 0 else 1) else if s = 61 then (if a = b then 1 else 0) else if s = 62 then (if a ≤ b then 0 else 1) else if b = 0 then 0 else a / b
theorem bind_x (s a b : Int32) : fU_bind s a b = some (xB s a b) := by
  unfold fU_bind fU_bind_0 xB
  repeat (first | rfl | split)
def xT (th : Nat → Int32) (j : Int32) : Int32 := if j < 0 then 0 else if 7 ≤ j then 0 else th j.toNatClampNeg
def x1 (th : Nat → Int32) (st : List Int32) (c : Int32) : List Int32 :=
  if c = 1256 then (match st with | [] => [] | a :: r => -a :: r)
  else if 1000 ≤ c then (match st with | b :: a :: r => xB (c - 1000) a b :: r | [a] => [a] | [] => [])
  else (if 0 ≤ c then c else xT th (-1 - c)) :: st
def xs (th : Nat → Int32) (C st : List Int32) : List Int32 := C.foldl (x1 th) st
theorem x1_len (th : Nat → Int32) (st : List Int32) (c : Int32) : (x1 th st c).length ≤ st.length + 1 := by
  unfold x1
  split
  · cases st <;> simp
  · split
    · match st with
      | [] => simp
      | [a] => simp
      | b :: a :: r => simp only [List.length_cons]; omega
    · simp
def xV (h : rb_H) (a : Nat) (st : List Int32) : Prop := ∀ i, i < st.length → rb_hI h a i = st.reverse.getD i 0
theorem xV_push {h : rb_H} {a : Nat} {st : List Int32} (hV : xV h a st) (v : Int32) : xV (rb_sI h a st.length v) a (v :: st) := fun i hi => by
  simp only [List.length_cons] at hi
  simp only [hI_sI, hI_sJ, hI_sF, hI_sR, hI_cp, hJ_sI, hJ_sJ, hJ_sF, hJ_sR, hJ_cp, hF_sI, hF_sJ, hF_sF, hF_sR, hF_cp, hR_sI, hR_sJ, hR_sF, hR_sR, hR_cp, true_and]
  by_cases e : i = st.length
  · subst e
    rw [if_pos rfl, rv_at]
  · rw [if_neg e, rv_lo (by omega)]
    exact hV i (by omega)
theorem xV_pop {h : rb_H} {a : Nat} {b : Int32} {st : List Int32} (hV : xV h a (b :: st)) : xV h a st ∧ rb_hI h a st.length = b := by
  refine ⟨fun i hi => ?_, ?_⟩
  · rw [← rv_lo (a := b) hi]
    exact hV i (by simp only [List.length_cons]; omega)
  · rw [hV st.length (by simp), rv_at]
