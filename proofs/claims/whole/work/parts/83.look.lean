/-! looking ahead: the model -/
def lkF (j : Nat) : List Nat := [78, 83, 1024] ++ mR ++ (if j = 0 then [76, 77, 80, 81, 82] else if j = 1 then [77, 81, 82] else [82])
theorem lkF_a : ∀ j, j < 3 → (((NL [1002, 75 + j, 51] (lkF j) = true ∧ NL [1016, 2001, 55, 56] (lkF j) = true) ∧ SL (78 :: 1024 :: mR) (lkF j) = true) ∧ SL [80 + j, 83] (lkF j) = true) ∧ SL [83] (lkF j) = true := by decide +kernel
theorem lkF_b : ∀ j, j < 2 → (((SL (lkF (j + 1)) (lkF j) = true ∧ SL [76 + j] (lkF j) = true) ∧ NL [75 + j, 80 + j] (lkF (j + 1)) = true) ∧ NL [1002, 75 + j, 51, 83, 80 + j] [76 + j] = true) ∧ NL [81 + j] [80 + j, 83] = true := by decide +kernel
theorem ra_74 : ∀ j, j < 4 → rb_ra 74 j = 75 + j := by decide +kernel
theorem ra_79 : ∀ j, j < 3 → rb_ra 79 j = 80 + j := by decide +kernel
def Fr (j : Nat) (h h' : rb_H) : Prop := Ag (lkF j) h h' ∧ ∀ i, i < j → rb_hI h' 83 i = rb_hI h 83 i
def PLn (h : rb_H) (j : Nat) (L : List Nat) : Prop := rb_hI h 83 j = nI L.length ∧ ∀ i, i < L.length → rb_hI h (80 + j) i = nI (L.getD i 0)
theorem ev_len {ρ : sRu} : ∀ (n : Nat) (B : sBd), (ev ρ n B).2.length ≤ n
  | 0, _ => Nat.le_refl _
  | n + 1, B => by
    cases eo : bO (cQ B) (vQ ρ n B) (25 * bN B) with
    | none => rw [ev_none eo]; exact Nat.zero_le _
    | some r =>
      rw [ev_some eo]
      exact Nat.succ_le_succ (ev_len n _)
theorem M_take (rec : Int32 → Int32 → rb_H → Option (Int32 × rb_H)) {h : rb_H} {j p s : Nat} (hj : j < 2) (hp : p < 8) (hs : s < 25) {L : List Nat} (hL : L.length ≤ 1) (hP : PLn h (j + 1) L) (v2 v4 v9 : Int32) (o3 : Nat) : ∃ h', fM_look_153l61 rec (nI j) v2 o3 v4 (nI p) (nI s) v9 h = some (.inl (v9, 0, nI (s + 1), h')) ∧ PLn h' j ((100 * p + s) :: L) ∧ Ag [80 + j, 83] h h' ∧ ∀ i, i ≠ j → rb_hI h' 83 i = rb_hI h 83 i := by
  obtain ⟨p1, p2⟩ := hP
  have e0 : (100 : Int32) * nI p + nI s = nI (100 * p + s) := by rw [show (100 : Int32) * nI p = nI (100 * p) from pk_mul 100 p, nI_add]
  have r0 := ra_79 j (by omega)
  have r1 := ra_79 (j + 1) (by omega)
  have loop : ∃ x, rb_iter rb_fuel (fun s' => fM_look_179b rec (nI j) v2 o3 v4 v9 0 (nI p) (nI s) s'.1 s'.2) ((0 : Int32), rb_sI h (80 + j) 0 (nI (100 * p + s))) = some x ∧ ((∀ i, i < L.length + 1 → rb_hI x (80 + j) i = nI (((100 * p + s) :: L).getD i 0)) ∧ Ag [80 + j] h x) := by
    refine rb_runP (fun k s' => s'.1 = nI k ∧ (∀ i, i < k + 1 → rb_hI s'.2 (80 + j) i = nI (((100 * p + s) :: L).getD i 0)) ∧ Ag [80 + j] h s'.2) _ L.length ⟨rfl, fun i hi => ?_, Ag_sI (by simp) (Ag_refl _ _)⟩ (by omega) ?_ ?_
    · have : i = 0 := by omega
      subst this
      show rb_hI (rb_sI h (80 + j) 0 (nI (100 * p + s))) (80 + j) 0 = _
      rw [hI_sI, if_pos ⟨rfl, rfl⟩]; rfl
    · rintro k ⟨y, g⟩ hk ⟨e1, e2, hA⟩
      dsimp only at e1 e2 hA ⊢
      subst e1
      have q1 : rb_hI g 83 (j + 1) = nI L.length := (AgI hA (by simp only [List.mem_cons, List.not_mem_nil, or_false]; omega) _).trans p1
      have q2 : rb_hI g (81 + j) k = nI (L.getD k 0) := (AgI hA (by simp only [List.mem_cons, List.not_mem_nil, or_false]; omega) _).trans (by rw [show 81 + j = 80 + (j + 1) by omega]; exact p2 k hk)
      unfold fM_look_179b
      simp only [nI_1, if_neg (oob_n (show j + 1 < 3 by omega) (show j + 1 < 2 ^ 31 by omega)), cl_n (show j + 1 < 2 ^ 31 by omega), cl_n (show j < 2 ^ 31 by omega), q1, if_neg (nI_ge hk (show L.length < 2 ^ 31 by omega)), if_neg (oob_n (show j < 3 by omega) (show j < 2 ^ 31 by omega)), if_neg (oob_n (show k < 3 by omega) (show k < 2 ^ 31 by omega)), if_neg (oob_n (show k + 1 < 3 by omega) (show k + 1 < 2 ^ 31 by omega)), cl_n (show k < 2 ^ 31 by omega), cl_n (show k + 1 < 2 ^ 31 by omega), r0, r1, show 80 + (j + 1) = 81 + j by omega, q2]
      refine ⟨_, rfl, rfl, fun i hi => ?_, Ag_sI (by simp) hA⟩
      show rb_hI (rb_sI g (80 + j) (k + 1) (nI (L.getD k 0))) (80 + j) i = _
      rw [hI_sI]
      by_cases ei : i = k + 1
      · rw [if_pos ⟨rfl, ei⟩, ei]; rfl
      · rw [if_neg (fun z => ei z.2)]
        exact e2 i (by omega)
    · rintro ⟨y, g⟩ ⟨e1, e2, hA⟩
      dsimp only at e1 e2 hA ⊢
      subst e1
      have q1 : rb_hI g 83 (j + 1) = nI L.length := (AgI hA (by simp only [List.mem_cons, List.not_mem_nil, or_false]; omega) _).trans p1
      unfold fM_look_179b
      simp only [nI_1, if_neg (oob_n (show j + 1 < 3 by omega) (show j + 1 < 2 ^ 31 by omega)), cl_n (show j + 1 < 2 ^ 31 by omega), q1]
      rw [if_pos (nI_le (Nat.le_refl _) (by omega))]
      exact ⟨_, rfl, e2, hA⟩
  obtain ⟨x, x1, x2, x3⟩ := loop
  have q1 : rb_hI x 83 (j + 1) = nI L.length := (AgI x3 (by simp only [List.mem_cons, List.not_mem_nil, or_false]; omega) _).trans p1
  unfold fM_look_153l61 fM_look_236l61
  simp only [if_neg (oob_n (show j < 3 by omega) (show j < 2 ^ 31 by omega)), cl_n (show j < 2 ^ 31 by omega), r0, e0]
  rw [x1]
  simp only [Option.bind_some, nI_1, if_neg (oob_n (show j + 1 < 3 by omega) (show j + 1 < 2 ^ 31 by omega)), cl_n (show j + 1 < 2 ^ 31 by omega), q1]
  refine ⟨_, rfl, ⟨?_, fun i hi => ?_⟩, Ag_sI (by simp) (Ag_mono (fun y hy => by simp only [List.mem_cons, List.not_mem_nil, or_false] at hy ⊢; exact Or.inl hy) x3), fun i hi => ?_⟩
  · rw [hI_sI, if_pos ⟨rfl, rfl⟩]; rfl
  · rw [hI_sI, if_neg (fun z => by omega)]
    exact x2 i hi
  · rw [hI_sI, if_neg (fun z => hi z.2)]
    exact AgI x3 (by simp only [List.mem_cons, List.not_mem_nil, or_false]; omega) _
