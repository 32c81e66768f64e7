/-! a sign taken, the whole text read: the machine -/
section
variable {h : rb_H} {o w : List Int32} {d g : Nat} {n : Bool} {c : Nat → Bool}
/-- what taking a sign has to show -/
def rp_T (h : rb_H) (R : Option (Bool × rb_H)) (z : Option sM) : Prop := ∃ b h', R = some (b, h') ∧ Ag [11, 12, 14, 15] h h' ∧ (z = none → b = false) ∧ ∀ s', z = some s' → b = true ∧ rp_Q h' s'.1 s'.2.1 s'.2.2.1 s'.2.2.2.1 s'.2.2.2.2.1 s'.2.2.2.2.2
theorem rp_T0 {h1 : rb_H} {R : Option (Bool × rb_H)} (hR : R = some (false, h1)) (hA : Ag [11, 12, 14, 15] h h1) : rp_T h R none := ⟨false, h1, hR, hA, fun _ => rfl, fun _ z => nomatch z⟩
theorem rp_T1 {h1 : rb_H} {R : Option (Bool × rb_H)} {s' : sM} (hR : R = some (true, h1)) (hA : Ag [11, 12, 14, 15] h h1) (hQ : rp_Q h1 s'.1 s'.2.1 s'.2.2.1 s'.2.2.2.1 s'.2.2.2.2.1 s'.2.2.2.2.2) : rp_T h R (some s') := ⟨true, h1, hR, hA, (fun z => nomatch z), fun _ z => by cases z; exact ⟨rfl, hQ⟩⟩
theorem rp_n0 {x : Int32} (hQ : x = (if n = true then 1 else 0)) : (x = 0) ↔ n = false := by
  rw [hQ]; cases n <;> simp
theorem rp_digit (hQ : rp_Q h o w d g n c) (hl : o.length + w.length < 40) (hg : g < 100) (x : Int32) : rp_T h (fU_takeDigit 11 x h) (if n = true then some (x :: o, w, d, 1, false, c) else if g < 1 then none else if 3 ≤ g then none else mDig x w d g n c o) := by
  unfold fU_takeDigit fU_takeDigit_0
  have q7 := hQ.2.2.2.2.1
  cases n with
  | true =>
    rw [if_neg (fun z => by rw [rp_n0 q7] at z; cases z), if_pos rfl]
    obtain ⟨h1, a1, a2, a3⟩ := rp_emit hQ (by omega) x
    rw [a1]
    exact rp_T1 rfl (Ag_sF (by decide) (Ag_sF (by decide) (AgS (by decide) a3))) (rp_g (rp_n a2 false rfl) 1)
  | false =>
    rw [if_pos ((rp_n0 q7).mpr rfl), if_neg (show ¬ (false = true) by decide), hQ.2.2.2.1]
    by_cases g1 : g < 1
    · rw [if_pos (show nI g < (1 : Int32) from nI_lt (b := 1) g1 (by omega)), if_pos g1]
      exact rp_T0 rfl (Ag_refl _ _)
    · rw [if_neg (show ¬ nI g < (1 : Int32) from fun z => g1 ((nI_ltI (b := 1) (by omega) (by omega)).mp z)), if_neg g1]
      by_cases g3 : 3 ≤ g
      · rw [if_pos (show (3 : Int32) ≤ nI g from nI_le (a := 3) g3 (by omega)), if_pos g3]
        exact rp_T0 rfl (Ag_refl _ _)
      · rw [if_neg (show ¬ (3 : Int32) ≤ nI g from nI_ge (b := 3) (by omega) (by omega)), if_neg g3, hQ.1.1]
        cases o with
        | nil =>
          rw [if_neg (by decide)]
          exact rp_T0 rfl (Ag_refl _ _)
        | cons y o =>
          simp only [List.length_cons] at hl
          rw [if_pos (show (1 : Int32) ≤ nI (y :: o).length from nI_le (a := 1) (by simp) (by simp only [List.length_cons]; omega)), rp_last, if_neg (oob_n (show o.length < 40 by omega) (by omega)), if_neg (oob_n (show o.length < 40 by omega) (by omega)), cl_n (by omega)]
          obtain ⟨⟨q1, q2⟩, ⟨q3, q4⟩, q5, q6, q7, q8⟩ := hQ
          have e : rb_hI h 12 o.length = y := by
            rw [q2 o.length (by simp)]
            exact rv_at
          refine rp_T1 rfl (Ag_sF (by decide) (Ag_sI (by decide) (Ag_refl _ _))) ⟨⟨?_, fun i hi => ?_⟩, ⟨?_, fun i hi => ?_⟩, ?_, ?_, ?_, fun i hi => ?_⟩
          · simp only [hI_sI, hI_sJ, hI_sF, hI_sR, hI_cp, hJ_sI, hJ_sJ, hJ_sF, hJ_sR, hJ_cp, hF_sI, hF_sJ, hF_sF, hF_sR, hF_cp, hR_sI, hR_sJ, hR_sF, hR_sR, hR_cp]
            simpa using q1
          · simp only [hI_sI, hI_sJ, hI_sF, hI_sR, hI_cp, hJ_sI, hJ_sJ, hJ_sF, hJ_sR, hJ_cp, hF_sI, hF_sJ, hF_sF, hF_sR, hF_cp, hR_sI, hR_sJ, hR_sF, hR_sR, hR_cp, true_and]
            simp only [List.length_cons] at hi
            by_cases z : i = o.length
            · subst z
              rw [if_pos rfl, rv_at, e]
            · have := q2 i (by simp only [List.length_cons]; omega)
              rw [rv_lo (by omega)] at this
              rw [if_neg z, rv_lo (by omega)]
              exact this
          · simp [hI_sI, hI_sJ, hI_sF, hI_sR, hI_cp, hJ_sI, hJ_sJ, hJ_sF, hJ_sR, hJ_cp, hF_sI, hF_sJ, hF_sF, hF_sR, hF_cp, hR_sI, hR_sJ, hR_sF, hR_sR, hR_cp, q3]
          · simpa [hI_sI, hI_sJ, hI_sF, hI_sR, hI_cp, hJ_sI, hJ_sJ, hJ_sF, hJ_sR, hJ_cp, hF_sI, hF_sJ, hF_sF, hF_sR, hF_cp, hR_sI, hR_sJ, hR_sF, hR_sR, hR_cp] using q4 i hi
          · simp [hI_sI, hI_sJ, hI_sF, hI_sR, hI_cp, hJ_sI, hJ_sJ, hJ_sF, hJ_sR, hJ_cp, hF_sI, hF_sJ, hF_sF, hF_sR, hF_cp, hR_sI, hR_sJ, hR_sF, hR_sR, hR_cp, q5]
          · simp [hI_sI, hI_sJ, hI_sF, hI_sR, hI_cp, hJ_sI, hJ_sJ, hJ_sF, hJ_sR, hJ_cp, hF_sI, hF_sJ, hF_sF, hF_sR, hF_cp, hR_sI, hR_sJ, hR_sF, hR_sR, hR_cp, q6, nI_1]
          · simp only [hI_sI, hI_sJ, hI_sF, hI_sR, hI_cp, hJ_sI, hJ_sJ, hJ_sF, hJ_sR, hJ_cp, hF_sI, hF_sJ, hF_sF, hF_sR, hF_cp, hR_sI, hR_sJ, hR_sF, hR_sR, hR_cp]
            simpa using q7
          · simpa [hI_sI, hI_sJ, hI_sF, hI_sR, hI_cp, hJ_sI, hJ_sJ, hJ_sF, hJ_sR, hJ_cp, hF_sI, hF_sJ, hF_sF, hF_sR, hF_cp, hR_sI, hR_sJ, hR_sF, hR_sR, hR_cp] using q8 i hi
theorem rp_thing (hQ : rp_Q h o w d g n c) (hl : o.length + w.length < 40) (hd : d ≤ 4) {k : Nat} (hk : k < 256) (hn : n = true) : rp_T h (fU_takeThing 11 (nI k) h) (if nI k = 45 then some (o, 256 :: w, d, g, n, c)
      else if nI k = 40 then (if d < 4 then some (o, 40 :: w, d + 1, g, n, fun i => if i = d + 1 then false else c i) else none)
      else if 0 ≤ fM_letterOf (nI k) then some ((-1 - fM_letterOf (nI k)) :: o, w, d, g, false, c) else none) := by
  unfold fU_takeThing fU_takeThing_0
  by_cases k1 : nI k = 45
  · rw [if_pos k1, if_pos k1]
    obtain ⟨h1, a1, a2, a3⟩ := rp_await hQ (by omega) 256
    rw [a1]
    exact rp_T1 rfl (AgS (by decide) a3) a2
  · rw [if_neg k1, if_neg k1]
    by_cases k2 : nI k = 40
    · rw [if_pos k2, if_pos k2, hQ.2.2.1]
      by_cases d4 : d < 4
      · have hi5 : rb_hF (rb_sF h 11 7 (nI d + 1)) 11 7 = nI (d + 1) := by rw [hF_sF, if_pos ⟨rfl, rfl⟩, nI_1]
        rw [if_pos (show nI d < (4 : Int32) from nI_lt (b := 4) d4 (by omega)), if_pos d4, hi5, if_neg (oob_n (show d + 1 < 5 by omega) (by omega)), cl_n (by omega)]
        have a0 : rp_Q (rb_sI (rb_sF h 11 7 (nI d + 1)) (11 + 4) (d + 1) (vp_nar .boolean 0)) o w (d + 1) g n (fun i => if i = d + 1 then false else c i) := by
          obtain ⟨⟨q1, q2⟩, ⟨q3, q4⟩, q5, q6, q7, q8⟩ := hQ
          refine ⟨⟨?_, fun i hi => ?_⟩, ⟨?_, fun i hi => ?_⟩, ?_, ?_, ?_, fun i hi => ?_⟩
          · simp [hI_sI, hI_sJ, hI_sF, hI_sR, hI_cp, hJ_sI, hJ_sJ, hJ_sF, hJ_sR, hJ_cp, hF_sI, hF_sJ, hF_sF, hF_sR, hF_cp, hR_sI, hR_sJ, hR_sF, hR_sR, hR_cp, q1]
          · simpa [hI_sI, hI_sJ, hI_sF, hI_sR, hI_cp, hJ_sI, hJ_sJ, hJ_sF, hJ_sR, hJ_cp, hF_sI, hF_sJ, hF_sF, hF_sR, hF_cp, hR_sI, hR_sJ, hR_sF, hR_sR, hR_cp] using q2 i hi
          · simp [hI_sI, hI_sJ, hI_sF, hI_sR, hI_cp, hJ_sI, hJ_sJ, hJ_sF, hJ_sR, hJ_cp, hF_sI, hF_sJ, hF_sF, hF_sR, hF_cp, hR_sI, hR_sJ, hR_sF, hR_sR, hR_cp, q3]
          · simpa [hI_sI, hI_sJ, hI_sF, hI_sR, hI_cp, hJ_sI, hJ_sJ, hJ_sF, hJ_sR, hJ_cp, hF_sI, hF_sJ, hF_sF, hF_sR, hF_cp, hR_sI, hR_sJ, hR_sF, hR_sR, hR_cp] using q4 i hi
          · simp [hI_sI, hI_sJ, hI_sF, hI_sR, hI_cp, hJ_sI, hJ_sJ, hJ_sF, hJ_sR, hJ_cp, hF_sI, hF_sJ, hF_sF, hF_sR, hF_cp, hR_sI, hR_sJ, hR_sF, hR_sR, hR_cp, nI_1]
          · simp [hI_sI, hI_sJ, hI_sF, hI_sR, hI_cp, hJ_sI, hJ_sJ, hJ_sF, hJ_sR, hJ_cp, hF_sI, hF_sJ, hF_sF, hF_sR, hF_cp, hR_sI, hR_sJ, hR_sF, hR_sR, hR_cp, q6]
          · simp [hI_sI, hI_sJ, hI_sF, hI_sR, hI_cp, hJ_sI, hJ_sJ, hJ_sF, hJ_sR, hJ_cp, hF_sI, hF_sJ, hF_sF, hF_sR, hF_cp, hR_sI, hR_sJ, hR_sF, hR_sR, hR_cp, q7]
          · have vn : vp_nar .boolean (0 : Int32) = 0 := by decide +kernel
            simp only [hI_sI, hI_sJ, hI_sF, hI_sR, hI_cp, hJ_sI, hJ_sJ, hJ_sF, hJ_sR, hJ_cp, hF_sI, hF_sJ, hF_sF, hF_sR, hF_cp, hR_sI, hR_sJ, hR_sF, hR_sR, hR_cp, true_and, vn]
            by_cases z : i = d + 1
            · subst z
              simp
            · have := q8 i (by omega)
              simp only [z, if_false]
              simpa using this
        obtain ⟨h1, a1, a2, a3⟩ := rp_await a0 (by omega) 40
        rw [a1]
        exact rp_T1 rfl (Ag_trans (Ag_sI (by decide) (Ag_sF (by decide) (Ag_refl _ _))) (AgS (by decide) a3)) a2
      · rw [if_neg (show ¬ nI d < (4 : Int32) from fun z => d4 ((nI_ltI (b := 4) (by omega) (by omega)).mp z)), if_neg d4]
        exact rp_T0 rfl (Ag_refl _ _)
    · rw [if_neg k2, if_neg k2, rp_ixT hk, Option.bind_some]
      by_cases k3 : 0 ≤ fM_letterOf (nI k)
      · rw [if_pos k3, if_pos k3]
        obtain ⟨h1, a1, a2, a3⟩ := rp_emit hQ (by omega) (-1 - fM_letterOf (nI k))
        rw [a1]
        exact rp_T1 rfl (Ag_sF (by decide) (AgS (by decide) a3)) (rp_n a2 false rfl)
      · rw [if_neg k3, if_neg k3]
        exact rp_T0 rfl (Ag_refl _ _)
theorem rp_rk (k : Nat) (hk : k < 256) : fU_rankOf (nI k) < 1 ∨ fU_rankOf (nI k) = 1 ∨ (¬ fU_rankOf (nI k) < 1 ∧ ¬ fU_rankOf (nI k) = 1) := by
  by_cases h1 : fU_rankOf (nI k) < 1
  · exact Or.inl h1
  · by_cases h2 : fU_rankOf (nI k) = 1
    · exact Or.inr (Or.inl h2)
    · exact Or.inr (Or.inr ⟨h1, h2⟩)
/-- release, await, and a thing is wanted -/
theorem rp_bind (r : Int32) (x : Int32) (hQ : rp_Q h o w d g n c) (hl : o.length + w.length < 40) : ∃ h', (fU_release 11 r h).bind (fun u3 => (fU_await 11 x u3).bind fun u5 => some (true, rb_sF u5 11 9 1)) = some (true, h') ∧ rp_Q h' (mRel r o w).1 (x :: (mRel r o w).2) d g true c ∧ Ag [11, 12, 14] h h' := by
  obtain ⟨h1, a1, a2, a3⟩ := rp_release r hQ (by omega)
  have e := mRel_len r w o
  obtain ⟨h2, b1, b2, b3⟩ := rp_await a2 (by omega) x
  rw [a1, Option.bind_some, b1]
  exact ⟨_, rfl, rp_n b2 true rfl, Ag_sF (by decide) (Ag_trans (AgS (by decide) a3) (AgS (by decide) b3))⟩
theorem rp_binder (hQ : rp_Q h o w d g n c) (hl : o.length + w.length < 40) (hd : d ≤ 4) {k : Nat} (hk : k < 256) : rp_T h (fU_takeBinder 11 (nI k) h) (if nI k = 41 then (if 1 ≤ d then some ((mRel 1 o w).1, (mRel 1 o w).2.tail, d - 1, g, n, c) else none)
    else if fU_rankOf (nI k) < 1 then none
    else if fU_rankOf (nI k) = 1 then (if c d = true then none else some ((mRel 1 o w).1, nI k :: (mRel 1 o w).2, d, g, true, fun i => if i = d then true else c i))
    else some ((mRel (fU_rankOf (nI k)) o w).1, nI k :: (mRel (fU_rankOf (nI k)) o w).2, d, g, true, c)) := by
  unfold fU_takeBinder fU_takeBinder_0
  by_cases k1 : nI k = 41
  · rw [if_pos k1, if_pos k1]
    unfold fU_closeBracket fU_closeBracket_0
    rw [hQ.2.2.1]
    by_cases d1 : 1 ≤ d
    · rw [if_pos (show (1 : Int32) ≤ nI d from nI_le (a := 1) d1 (by omega)), if_pos d1]
      obtain ⟨h1, a1, a2, a3⟩ := rp_release 1 hQ (by omega)
      rw [a1]
      have e := mRel_len 1 w o
      generalize mRel 1 o w = ow at *
      obtain ⟨o1, w1⟩ := ow
      dsimp only at a2 e ⊢
      obtain ⟨⟨q1, q2⟩, ⟨q3, q4⟩, q5, q6, q7, q8⟩ := a2
      have e1 : nI d - 1 = nI (d - 1) := nI_sub (b := 1) d1
      have e2 : rb_max (nI w1.length - 1) 0 = nI w1.tail.length := by
        cases w1 with
        | nil => decide +kernel
        | cons a w1 =>
          rw [rp_last]
          unfold rb_max
          rw [if_neg (nI_pos (by simp only [List.length_cons] at e; omega))]
          rfl
      refine rp_T1 rfl (Ag_sF (by decide) (Ag_sF (by decide) (AgS (by decide) a3))) ⟨⟨?_, fun i hi => ?_⟩, ⟨?_, fun i hi => ?_⟩, ?_, ?_, ?_, fun i hi => ?_⟩
      · simp [hI_sI, hI_sJ, hI_sF, hI_sR, hI_cp, hJ_sI, hJ_sJ, hJ_sF, hJ_sR, hJ_cp, hF_sI, hF_sJ, hF_sF, hF_sR, hF_cp, hR_sI, hR_sJ, hR_sF, hR_sR, hR_cp, q1]
      · simpa [hI_sI, hI_sJ, hI_sF, hI_sR, hI_cp, hJ_sI, hJ_sJ, hJ_sF, hJ_sR, hJ_cp, hF_sI, hF_sJ, hF_sF, hF_sR, hF_cp, hR_sI, hR_sJ, hR_sF, hR_sR, hR_cp] using q2 i hi
      · simp only [hI_sI, hI_sJ, hI_sF, hI_sR, hI_cp, hJ_sI, hJ_sJ, hJ_sF, hJ_sR, hJ_cp, hF_sI, hF_sJ, hF_sF, hF_sR, hF_cp, hR_sI, hR_sJ, hR_sF, hR_sR, hR_cp]
        simp [q3, e2]
      · cases w1 with
        | nil => exact absurd hi (Nat.not_lt_zero _)
        | cons a w1 =>
          dsimp only [List.tail_cons] at hi ⊢
          have := q4 i (by simp only [List.length_cons]; omega)
          rw [rv_lo hi] at this
          simpa [hI_sI, hI_sJ, hI_sF, hI_sR, hI_cp, hJ_sI, hJ_sJ, hJ_sF, hJ_sR, hJ_cp, hF_sI, hF_sJ, hF_sF, hF_sR, hF_cp, hR_sI, hR_sJ, hR_sF, hR_sR, hR_cp] using this
      · simp [hI_sI, hI_sJ, hI_sF, hI_sR, hI_cp, hJ_sI, hJ_sJ, hJ_sF, hJ_sR, hJ_cp, hF_sI, hF_sJ, hF_sF, hF_sR, hF_cp, hR_sI, hR_sJ, hR_sF, hR_sR, hR_cp, q5, e1]
      · simp [hI_sI, hI_sJ, hI_sF, hI_sR, hI_cp, hJ_sI, hJ_sJ, hJ_sF, hJ_sR, hJ_cp, hF_sI, hF_sJ, hF_sF, hF_sR, hF_cp, hR_sI, hR_sJ, hR_sF, hR_sR, hR_cp, q6]
      · simp [hI_sI, hI_sJ, hI_sF, hI_sR, hI_cp, hJ_sI, hJ_sJ, hJ_sF, hJ_sR, hJ_cp, hF_sI, hF_sJ, hF_sF, hF_sR, hF_cp, hR_sI, hR_sJ, hR_sF, hR_sR, hR_cp, q7]
      · have := q8 i (by dsimp only at hi; omega)
        simpa [hI_sI, hI_sJ, hI_sF, hI_sR, hI_cp, hJ_sI, hJ_sJ, hJ_sF, hJ_sR, hJ_cp, hF_sI, hF_sJ, hF_sF, hF_sR, hF_cp, hR_sI, hR_sJ, hR_sF, hR_sR, hR_cp] using this
    · rw [if_neg (show ¬ (1 : Int32) ≤ nI d from nI_ge (b := 1) (by omega) (by omega)), if_neg d1]
      exact rp_T0 rfl (Ag_refl _ _)
  · rw [if_neg k1, if_neg k1]
    simp only [rb_lt]
    rcases rp_rk k hk with r1 | r1 | ⟨r1, r2⟩
    · rw [if_pos r1, if_pos r1]
      exact rp_T0 rfl (Ag_refl _ _)
    · have r0 : ¬ fU_rankOf (nI k) < 1 := by rw [r1]; decide
      rw [if_neg r0, if_neg r0, hQ.2.2.1, if_neg (nI_pos (by omega)), if_neg (show ¬ (4 : Int32) < nI d from fun z => by rw [show (4 : Int32) = nI 4 from rfl, nI_ltI (by omega) (by omega)] at z; omega), if_pos r1, if_pos r1, if_neg (oob_n (show d < 5 by omega) (by omega)), cl_n (by omega), hQ.2.2.2.2.2 d (Nat.le_refl _)]
      cases hc : c d with
      | true =>
        rw [if_neg (by decide), if_pos rfl]
        exact rp_T0 rfl (Ag_refl _ _)
      | false =>
        rw [if_pos (by decide), if_neg (by decide)]
        unfold fU_takeBinder_55 fU_takeBinder_70
        rw [r1, if_pos rfl, hQ.2.2.1, if_neg (oob_n (show d < 5 by omega) (by omega)), cl_n (by omega)]
        have a0 : rp_Q (rb_sI h (11 + 4) d (vp_nar .boolean 1)) o w d g n (fun i => if i = d then true else c i) := by
          obtain ⟨⟨q1, q2⟩, ⟨q3, q4⟩, q5, q6, q7, q8⟩ := hQ
          refine ⟨⟨?_, fun i hi => ?_⟩, ⟨?_, fun i hi => ?_⟩, ?_, ?_, ?_, fun i hi => ?_⟩
          · simp [hI_sI, hI_sJ, hI_sF, hI_sR, hI_cp, hJ_sI, hJ_sJ, hJ_sF, hJ_sR, hJ_cp, hF_sI, hF_sJ, hF_sF, hF_sR, hF_cp, hR_sI, hR_sJ, hR_sF, hR_sR, hR_cp, q1]
          · simpa [hI_sI, hI_sJ, hI_sF, hI_sR, hI_cp, hJ_sI, hJ_sJ, hJ_sF, hJ_sR, hJ_cp, hF_sI, hF_sJ, hF_sF, hF_sR, hF_cp, hR_sI, hR_sJ, hR_sF, hR_sR, hR_cp] using q2 i hi
          · simp [hI_sI, hI_sJ, hI_sF, hI_sR, hI_cp, hJ_sI, hJ_sJ, hJ_sF, hJ_sR, hJ_cp, hF_sI, hF_sJ, hF_sF, hF_sR, hF_cp, hR_sI, hR_sJ, hR_sF, hR_sR, hR_cp, q3]
          · simpa [hI_sI, hI_sJ, hI_sF, hI_sR, hI_cp, hJ_sI, hJ_sJ, hJ_sF, hJ_sR, hJ_cp, hF_sI, hF_sJ, hF_sF, hF_sR, hF_cp, hR_sI, hR_sJ, hR_sF, hR_sR, hR_cp] using q4 i hi
          · simp [hI_sI, hI_sJ, hI_sF, hI_sR, hI_cp, hJ_sI, hJ_sJ, hJ_sF, hJ_sR, hJ_cp, hF_sI, hF_sJ, hF_sF, hF_sR, hF_cp, hR_sI, hR_sJ, hR_sF, hR_sR, hR_cp, q5]
          · simp [hI_sI, hI_sJ, hI_sF, hI_sR, hI_cp, hJ_sI, hJ_sJ, hJ_sF, hJ_sR, hJ_cp, hF_sI, hF_sJ, hF_sF, hF_sR, hF_cp, hR_sI, hR_sJ, hR_sF, hR_sR, hR_cp, q6]
          · simp [hI_sI, hI_sJ, hI_sF, hI_sR, hI_cp, hJ_sI, hJ_sJ, hJ_sF, hJ_sR, hJ_cp, hF_sI, hF_sJ, hF_sF, hF_sR, hF_cp, hR_sI, hR_sJ, hR_sF, hR_sR, hR_cp, q7]
          · have vn : vp_nar .boolean (1 : Int32) = 1 := by decide +kernel
            simp only [hI_sI, hI_sJ, hI_sF, hI_sR, hI_cp, hJ_sI, hJ_sJ, hJ_sF, hJ_sR, hJ_cp, hF_sI, hF_sJ, hF_sF, hF_sR, hF_cp, hR_sI, hR_sJ, hR_sF, hR_sR, hR_cp, true_and, vn]
            by_cases z : i = d
            · subst z
              simp
            · have := q8 i (by omega)
              simp only [z, if_false]
              simpa using this
        obtain ⟨h1, b1, b2, b3⟩ := rp_bind 1 (nI k) a0 hl
        rw [b1]
        exact rp_T1 rfl (Ag_trans (Ag_sI (by decide) (Ag_refl _ _)) (AgS (by decide) b3)) b2
    · rw [if_neg r1, if_neg r1, hQ.2.2.1, if_neg (nI_pos (by omega)), if_neg (show ¬ (4 : Int32) < nI d from fun z => by rw [show (4 : Int32) = nI 4 from rfl, nI_ltI (by omega) (by omega)] at z; omega), if_neg r2, if_neg r2]
      unfold fU_takeBinder_55 fU_takeBinder_70
      rw [if_neg r2]
      obtain ⟨h1, b1, b2, b3⟩ := rp_bind (fU_rankOf (nI k)) (nI k) hQ hl
      rw [b1]
      exact rp_T1 rfl (AgS (by decide) b3) b2
theorem rp_T_map {R : Option (Bool × rb_H)} {z : Option sM} (hT : rp_T h R z) : rp_T h (R.bind fun u => some (u.1, u.2)) z := by
  obtain ⟨b, h', e, q⟩ := hT
  exact ⟨b, h', by rw [e]; rfl, q⟩
theorem rp_T_pre {h0 : rb_H} {R : Option (Bool × rb_H)} {z : Option sM} (hA : Ag [11, 12, 14, 15] h0 h) (hT : rp_T h R z) : rp_T h0 R z := by
  obtain ⟨b, h', e, q1, q2⟩ := hT
  exact ⟨b, h', e, Ag_trans hA q1, q2⟩
theorem rp_take (hQ : rp_Q h o w d g n c) (hl : o.length + w.length < 40) (hd : d ≤ 4) (hg : g < 100) {k : Nat} (hk : k < 256) : rp_T h (fU_take 11 (nI k) h) (mTake (o, w, d, g, n, c) (nI k)) := by
  unfold fU_take fU_take_0 mTake
  dsimp only
  by_cases i1 : fB_isDigit (nI k) = true
  · rw [if_pos i1, if_pos i1]
    exact rp_T_map (rp_digit hQ hl hg (nI k - 48))
  · rw [if_neg i1, if_neg i1]
    have a0 := rp_g hQ 0
    have A : Ag [11, 12, 14, 15] h (rb_sF h 11 8 (nI 0)) := Ag_sF (by decide) (Ag_refl _ _)
    have q7 := a0.2.2.2.2.1
    cases n with
    | true =>
      rw [if_pos rfl, if_neg (show ¬ rb_hF (rb_sF h 11 8 0) 11 9 = 0 from fun z => by have := (rp_n0 q7).mp z; cases this)]
      exact rp_T_pre A (rp_T_map (rp_thing a0 hl hd hk rfl))
    | false =>
      rw [if_pos (show rb_hF (rb_sF h 11 8 0) 11 9 = 0 from (rp_n0 q7).mpr rfl), if_neg (show ¬ (false = true) by decide)]
      exact rp_T_pre A (rp_T_map (rp_binder a0 hl hd hk))
end
