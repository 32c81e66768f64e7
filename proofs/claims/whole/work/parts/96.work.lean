/-! a code worked out -/
theorem take_1 {α : Type} {C : List α} {n : Nat} {d : α} (h : n < C.length) : C.take (n + 1) = C.take n ++ [C.getD n d] := by
  rw [List.take_add_one, List.getD_eq_getElem?_getD, List.getElem?_eq_getElem h]
  rfl
theorem xs_take {th : Nat → Int32} {C : List Int32} {n : Nat} (h : n < C.length) : xs th (C.take (n + 1)) [] = x1 th (xs th (C.take n) []) (C.getD n 0) := by
  unfold xs
  rw [take_1 (d := 0) h, List.foldl_append]
  rfl
theorem xs_tlen (th : Nat → Int32) (C : List Int32) : ∀ n, (xs th (C.take n) []).length ≤ n
  | 0 => by simp [xs]
  | n + 1 => by
    by_cases h : n < C.length
    · rw [xs_take h]
      have := x1_len th (xs th (C.take n) []) (C.getD n 0)
      have := xs_tlen th C n
      omega
    · have := xs_tlen th C n
      rw [List.take_of_length_le (show C.length ≤ n + 1 by omega)]
      rw [List.take_of_length_le (show C.length ≤ n by omega)] at this
      omega
section
variable {ru : Nat} {th : Nat → Int32}
theorem xT_is {h : rb_H} (hlen : rb_len (ru + 5) = 7) (hth : ∀ i, i < 7 → rb_hI h (ru + 5) i = th i) (j : Int32) : fU_thing ru j h = some (xT th j) := by
  unfold fU_thing fU_thing_0 xT
  rw [hlen]
  by_cases h1 : j < 0
  · rw [if_pos h1, if_pos h1]
  · rw [if_neg h1, if_neg h1]
    by_cases h2 : (7 : Int32) ≤ j
    · rw [if_pos (show Int32.ofNat 7 ≤ j from h2), if_pos h2]
    · rw [if_neg (show ¬ Int32.ofNat 7 ≤ j from h2), if_neg h2]
      obtain ⟨k, hk, rfl⟩ := nI_of h1
      have h3 : k < 7 := by
        by_cases z : k < 7
        · exact z
        · exact absurd (nI_le (a := 7) (by omega) hk) h2
      rw [if_neg (oob_n h3 hk), cl_n hk, hth k h3]
/-- one code of it -/
theorem x1_step {h : rb_H} {st : List Int32} {c : Int32} {n : Nat} (hlen : rb_len (ru + 5) = 7) (hth : ∀ i, i < 7 → rb_hI h (ru + 5) i = th i) (hV : xV h (ru + 2) st) (hs : st.length < 40) (hn : n < 40) (h5 : ¬ rb_hF h ru 5 ≤ nI n) (hc : rb_hI h (ru + 1) n = c) : ∃ h', fU_worked_4b ru (nI st.length) (nI n) h = some (.inl (nI (x1 th st c).length, nI (n + 1), h')) ∧ xV h' (ru + 2) (x1 th st c) ∧ Ag [ru + 2] h h' := by
  have nothing : fU_worked_143l4 ru (nI st.length) (nI n) h = some (.inl (nI st.length, nI (n + 1), h)) := by
    unfold fU_worked_143l4
    rw [nI_1]
  unfold fU_worked_4b
  rw [if_neg h5, if_neg (show ¬ (40 : Int32) ≤ nI n from nI_ge (b := 40) hn (by omega)), if_neg (oob_n hn (by omega)), cl_n (by omega), hc]
  by_cases c1 : c = 1256
  · rw [if_pos c1]
    subst c1
    cases st with
    | nil =>
      rw [if_pos (by decide)]
      refine ⟨h, ?_, fun i hi => absurd hi (Nat.not_lt_zero _), Ag_refl _ _⟩
      unfold fU_worked_56l4 fU_worked_106l4
      rw [if_neg (by decide), if_pos (by decide), if_pos (by decide), nothing]
      rfl
    | cons a st =>
      obtain ⟨v1, v2⟩ := xV_pop hV
      simp only [List.length_cons] at hs
      rw [if_neg (show ¬ nI (a :: st).length ≤ 0 from nI_ge (a := 0) (by simp) (by simp only [List.length_cons]; omega)), rp_last, if_neg (oob_n (show st.length < 40 by omega) (by omega)), if_neg (oob_n (show st.length < 40 by omega) (by omega)), cl_n (by omega), v2]
      refine ⟨_, ?_, xV_push v1 (-a), Ag_sI (by simp) (Ag_refl _ _)⟩
      unfold fU_worked_143l4
      rw [nI_1]
      rfl
  · rw [if_neg c1]
    unfold x1
    rw [if_neg c1]
    unfold fU_worked_56l4
    by_cases c2 : (1000 : Int32) ≤ c
    · rw [if_neg (Int32.not_lt.mpr c2), if_pos c2]
      match st, hV, hs, nothing with
      | [], hV, hs, nothing =>
        rw [if_pos (by decide)]
        unfold fU_worked_106l4
        rw [if_pos c2, nothing]
        exact ⟨h, rfl, hV, Ag_refl _ _⟩
      | [a], hV, hs, nothing =>
        rw [if_pos (show nI [a].length ≤ 1 from (by decide : nI 1 ≤ 1))]
        unfold fU_worked_106l4
        rw [if_pos c2, nothing]
        exact ⟨h, rfl, hV, Ag_refl _ _⟩
      | b :: a :: st, hV, hs, nothing =>
        obtain ⟨v1, v2⟩ := xV_pop hV
        obtain ⟨v3, v4⟩ := xV_pop v1
        simp only [List.length_cons] at hs v2
        have e1 : nI (b :: a :: st).length - 1 = nI (st.length + 1) := rp_last b (a :: st)
        have e2 : nI (b :: a :: st).length - 2 = nI st.length := nI_sub (a := st.length + 2) (b := 2) (by omega)
        have e3 : nI (b :: a :: st).length + (-1) = nI (st.length + 1) := by rw [← e1]; exact (Int32.sub_eq_add_neg _ _).symm
        rw [if_neg (show ¬ nI (b :: a :: st).length ≤ 1 from nI_ge (a := 1) (by simp) (by simp only [List.length_cons]; omega)), e1, e2, e3, if_neg (oob_n (show st.length < 40 by omega) (by omega)), if_neg (oob_n (show st.length + 1 < 40 by omega) (by omega))]
        simp only [cl_n (show st.length < 2 ^ 31 by omega), cl_n (show st.length + 1 < 2 ^ 31 by omega), v2, v4, bind_x, Option.bind_some]
        rw [if_neg (oob_n (show st.length < 40 by omega) (by omega))]
        refine ⟨_, ?_, xV_push v3 _, Ag_sI (by simp) (Ag_refl _ _)⟩
        unfold fU_worked_143l4
        rw [nI_1]
        rfl
    · have c3 : c < 1000 := Int32.not_le.mp c2
      rw [if_pos c3, if_neg c2]
      unfold fU_worked_106l4
      rw [if_neg c2, if_neg (show ¬ (40 : Int32) ≤ nI st.length from nI_ge (b := 40) hs (by omega))]
      have fin : ∀ v, ∃ h', fU_worked_139l4 ru (nI st.length) (nI n) v (nI st.length) (ru + 2) h = some (.inl (nI (v :: st).length, nI (n + 1), h')) ∧ xV h' (ru + 2) (v :: st) ∧ Ag [ru + 2] h h' := fun v => by
        unfold fU_worked_139l4 fU_worked_143l4
        rw [if_neg (oob_n hs (by omega)), cl_n (by omega), nI_1, nI_1]
        exact ⟨_, rfl, xV_push hV v, Ag_sI (by simp) (Ag_refl _ _)⟩
      by_cases c4 : 0 ≤ c
      · rw [if_pos c4, if_pos c4]
        exact fin c
      · rw [if_neg c4, if_neg c4, xT_is hlen hth, Option.bind_some]
        exact fin _
theorem xs_worked {h : rb_H} {C : List Int32} (hru : ru ≠ 49) (hlen : rb_len (ru + 5) = 7) (hth : ∀ i, i < 7 → rb_hI h (ru + 5) i = th i) (hC : C.length ≤ 40) (h5 : rb_hF h ru 5 = nI C.length) (hcode : ∀ i, i < C.length → rb_hI h (ru + 1) i = C.getD i 0) : ∃ h', fU_worked ru h = some (rb_hI h' (ru + 2) 0, h') ∧ xV h' (ru + 2) (xs th C []) ∧ Ag [ru + 2] h h' := by
  have f5 : fid ru 5 ∉ [ru + 2] := by
    unfold fid
    rw [if_neg hru]
    simp
  have main : ∃ x, rb_iter rb_fuel (fun s => fU_worked_4b ru s.1 s.2.1 s.2.2) ((0 : Int32), (0 : Int32), h) = some x ∧ (xV x (ru + 2) (xs th C []) ∧ Ag [ru + 2] h x) := by
    refine rb_runP (fun n s => s.1 = nI (xs th (C.take n) []).length ∧ s.2.1 = nI n ∧ xV s.2.2 (ru + 2) (xs th (C.take n) []) ∧ Ag [ru + 2] h s.2.2) _ C.length ⟨rfl, rfl, fun i hi => absurd hi (Nat.not_lt_zero _), Ag_refl _ _⟩ (by omega) ?_ ?_
    · rintro n ⟨v1, v2, g⟩ hn ⟨e1, e2, q1, q2⟩
      dsimp only at e1 e2 q1 q2 ⊢
      subst e1
      subst e2
      have tl := xs_tlen th C n
      obtain ⟨h', a1, a2, a3⟩ := x1_step (n := n) (c := C.getD n 0) hlen (fun i hi => (AgI q2 (by simp) i).trans (hth i hi)) q1 (by omega) (by omega) (by rw [AgF q2 f5, h5]; exact nI_ge hn (by omega)) ((AgI q2 (by simp) n).trans (hcode n hn))
      rw [← xs_take hn] at a1 a2
      exact ⟨_, a1, rfl, rfl, a2, Ag_trans q2 a3⟩
    · rintro ⟨v1, v2, g⟩ ⟨e1, e2, q1, q2⟩
      dsimp only at e1 e2 q1 q2 ⊢
      subst e2
      rw [List.take_of_length_le (Nat.le_refl _)] at q1
      refine ⟨g, ?_, q1, q2⟩
      unfold fU_worked_4b
      rw [AgF q2 f5, h5, if_pos (nI_le (Nat.le_refl _) (by omega))]
  obtain ⟨x, m1, m2, m3⟩ := main
  unfold fU_worked fU_worked_0
  rw [m1]
  exact ⟨x, rfl, m2, m3⟩
def cutT (th : Nat → Int32) (i : Nat) : Int32 := if i < 7 then th i else 0
/-- a code that leaves one number holds a rule -/
theorem RuC_of {h : rb_H} {C : List Int32} {v : (Nat → Int32) → Int32} (hru : ru ≠ 49) (hlen : rb_len (ru + 5) = 7) (h0 : 0 < C.length) (hC : C.length ≤ 40) (h5 : rb_hF h ru 5 = nI C.length) (hcode : ∀ i, i < C.length → rb_hI h (ru + 1) i = C.getD i 0) (hv : ∀ th, xs th C [] = [v th]) : RuC h ru (false, fun th => v (cutT th)) := by
  refine ⟨(fun z => nomatch z), fun _ => ⟨?_, fun h' th e1 e2 e3 => ?_⟩⟩
  · rw [h5]
    intro z
    have := (nI_eq (b := 0) (show C.length < 2 ^ 31 by omega) (by omega)).mp z
    omega
  · obtain ⟨h'', a1, a2, a3⟩ := xs_worked (h := h') (th := cutT th) hru hlen (fun i hi => (e3 i hi).trans (if_pos hi).symm) hC (e2.trans h5) (fun i hi => (e1 i).trans (hcode i hi))
    refine ⟨h'', ?_, a3⟩
    rw [a1, a2 0 (by rw [hv]; simp), hv]
    rfl
end
