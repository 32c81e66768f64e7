/-! the row, the past, copies of the model's rows: what many calls share -/
theorem sq_or (x : Int32) (n : Nat) : (∃ s, s < n ∧ x = nI s) ∨ ∀ s, s < n → x ≠ nI s := by
  by_cases h : ∃ s, s < n ∧ x = nI s
  · exact Or.inl h
  · exact Or.inr fun s hs e => h ⟨s, hs, e⟩
/-- a number from lo to hi, or not -/
theorem rg_or (x : Int32) {n : Nat} (hn : n < 2 ^ 31) : (∃ k, k ≤ n ∧ x = nI k) ∨ (x < 0 ∨ (¬ x < 0 ∧ nI n < x)) := by
  by_cases h0 : x < 0
  · exact Or.inr (Or.inl h0)
  · obtain ⟨j, hj, rfl⟩ := nI_of h0
    by_cases h : j ≤ n
    · exact Or.inl ⟨j, h, rfl⟩
    · exact Or.inr (Or.inr ⟨h0, nI_lt (by omega) hj⟩)
theorem M_in_y {k n : Nat} (h : k ≤ n) (hn : n < 2 ^ 31) {M : Int32} (hM : M = nI n) : fM_in (nI k) 0 M = true := by
  rw [hM, show (0 : Int32) = nI 0 from rfl, M_in_n (by omega) (by omega) hn]
  simp [h]
theorem M_in_no {x M : Int32} (h : x < 0 ∨ (¬ x < 0 ∧ M < x)) : fM_in x 0 M = false := by
  unfold fM_in fM_in_0
  rcases h with h | ⟨h1, h2⟩
  · rw [if_pos h]
  · rw [if_neg h1, if_pos h2]
theorem lt_le {x y : Int32} : ¬ x < y ↔ y ≤ x := Int32.not_lt
theorem le_lt {x y : Int32} : ¬ x ≤ y ↔ y < x := Int32.not_le
theorem getD_app {α : Type} {l : List α} {x d : α} {i : Nat} : (l ++ [x]).getD i d = if i < l.length then l.getD i d else if i = l.length then x else d := by
  rw [List.getD_eq_getElem?_getD, List.getD_eq_getElem?_getD, List.getElem?_append]
  by_cases h : i < l.length
  · simp [h]
  · by_cases e : i = l.length
    · subst e; simp
    · have : i - l.length ≠ 0 := by omega
      simp [h, e, this]
theorem getD_drop1 {α : Type} {l : List α} {d : α} {i : Nat} : (l.drop 1).getD i d = l.getD (i + 1) d := by
  rw [List.getD_eq_getElem?_getD, List.getD_eq_getElem?_getD, List.getElem?_drop, Nat.add_comm]
theorem getD_take {α : Type} {l : List α} {d : α} {i n : Nat} (h : i < n) : (l.take n).getD i d = l.getD i d := by
  rw [List.getD_eq_getElem?_getD, List.getD_eq_getElem?_getD, List.getElem?_take, if_pos h]
theorem getD_mem {α : Type} {l : List α} {d : α} {i : Nat} (h : i < l.length) : l.getD i d ∈ l := by
  rw [List.getD_eq_getElem?_getD, List.getElem?_eq_getElem h]
  exact List.getElem_mem h
/-- one more past board: at most twelve -/
def pushP (P : List sBd) (B : sBd) : List sBd := if P.length < 12 then P ++ [B] else P.drop 1 ++ [B]
theorem pushP_len {P : List sBd} {B : sBd} (h : P.length ≤ 12) : (pushP P B).length ≤ 12 := by
  unfold pushP
  split <;> simp <;> omega
theorem pushP_mem {P : List sBd} {B b : sBd} (h : b ∈ pushP P B) : b ∈ P ∨ b = B := by
  unfold pushP at h
  split at h
  · simpa using h
  · rcases List.mem_append.mp h with q | q
    · exact Or.inl (List.mem_of_mem_drop q)
    · exact Or.inr (by simpa using q)
section
variable {h : rb_H} {R : List Int64} {P : List sBd} {B : sBd}
theorem C_add (hR : RWc h R) (hl : R.length < 25) (w : Int64) : ∃ h', fR_add w h = some h' ∧ RWc h' (R ++ [w]) ∧ Ag [3, 4] h h' := by
  unfold fR_add fR_add_0
  rw [hR.1, if_neg (show ¬ (25 : Int32) ≤ nI R.length from nI_ge (b := 25) hl (by omega)), if_neg (oob_n hl (by omega)), cl_n (by omega)]
  refine ⟨_, rfl, ⟨?_, fun i hi => ?_⟩, Ag_sF (by decide) (Ag_sJ (by decide) (Ag_refl _ _))⟩
  · simp [hI_sI, hI_sJ, hI_sF, hI_sR, hI_cp, hJ_sI, hJ_sJ, hJ_sF, hJ_sR, hJ_cp, hF_sI, hF_sJ, hF_sF, hF_sR, hF_cp, hR_sI, hR_sJ, hR_sF, hR_sR, hR_cp, hR.1, nI_1]
  · rw [getD_app]
    simp only [hI_sI, hI_sJ, hI_sF, hI_sR, hI_cp, hJ_sI, hJ_sJ, hJ_sF, hJ_sR, hJ_cp, hF_sI, hF_sJ, hF_sF, hF_sR, hF_cp, hR_sI, hR_sJ, hR_sF, hR_sR, hR_cp, true_and]
    simp only [List.length_append, List.length_cons, List.length_nil] at hi
    by_cases e : i = R.length
    · simp [e]
    · rw [if_neg e, if_pos (show i < R.length by omega)]
      exact hR.2 i (by omega)
theorem C_tell2 (w : Int64) (h : rb_H) : ∃ h', fB_tell2 w h = some h' ∧ RWc h' [w] ∧ Ag [3, 4] h h' := by
  obtain ⟨h1, q1, q2, q3⟩ := C_add (h := rb_sF h 3 1 0) (R := []) ⟨by simp [hI_sI, hI_sJ, hI_sF, hI_sR, hI_cp, hJ_sI, hJ_sJ, hJ_sF, hJ_sR, hJ_cp, hF_sI, hF_sJ, hF_sF, hF_sR, hF_cp, hR_sI, hR_sJ, hR_sF, hR_sR, hR_cp]; rfl, fun i hi => absurd hi (Nat.not_lt_zero _)⟩ (by decide) w
  unfold fB_tell2 fB_tell2_0
  rw [q1]
  exact ⟨h1, rfl, q2, Ag_trans (Ag_sF (by decide) (Ag_refl _ _)) q3⟩
theorem C_tell1 (w v : Int64) (h : rb_H) : ∃ h', fB_tell1 w v h = some h' ∧ RWc h' [w, v] ∧ Ag [3, 4] h h' := by
  obtain ⟨h1, q1, q2, q3⟩ := C_add (h := rb_sF h 3 1 0) (R := []) ⟨by simp [hI_sI, hI_sJ, hI_sF, hI_sR, hI_cp, hJ_sI, hJ_sJ, hJ_sF, hJ_sR, hJ_cp, hF_sI, hF_sJ, hF_sF, hF_sR, hF_cp, hR_sI, hR_sJ, hR_sF, hR_sR, hR_cp]; rfl, fun i hi => absurd hi (Nat.not_lt_zero _)⟩ (by decide) w
  obtain ⟨h2, r1, r2, r3⟩ := C_add q2 (by simp) v
  unfold fB_tell1 fB_tell1_0
  rw [q1]
  simp only [Option.bind_some, r1]
  exact ⟨h2, rfl, r2, Ag_trans (Ag_trans (Ag_sF (by decide) (Ag_refl _ _)) q3) r3⟩
theorem M_tell (hR : RWm h R) (hl : R.length < 16) (w : Int64) : ∃ h', fM_tell w h = some h' ∧ RWm h' (R ++ [w]) ∧ Ag [1006, 53] h h' := by
  unfold fM_tell fM_tell_0
  rw [hR.1, if_neg (oob_n hl (by omega)), cl_n (by omega)]
  refine ⟨_, rfl, ⟨?_, fun i hi => ?_⟩, Ag_sF (by decide) (Ag_sJ (by decide) (Ag_refl _ _))⟩
  · simp [hI_sI, hI_sJ, hI_sF, hI_sR, hI_cp, hJ_sI, hJ_sJ, hJ_sF, hJ_sR, hJ_cp, hF_sI, hF_sJ, hF_sF, hF_sR, hF_cp, hR_sI, hR_sJ, hR_sF, hR_sR, hR_cp, hR.1, nI_1]
  · rw [getD_app]
    simp only [hI_sI, hI_sJ, hI_sF, hI_sR, hI_cp, hJ_sI, hJ_sJ, hJ_sF, hJ_sR, hJ_cp, hF_sI, hF_sJ, hF_sF, hF_sR, hF_cp, hR_sI, hR_sJ, hR_sF, hR_sR, hR_cp, true_and]
    simp only [List.length_append, List.length_cons, List.length_nil] at hi
    by_cases e : i = R.length
    · simp [e]
    · rw [if_neg e, if_pos (show i < R.length by omega)]
      exact hR.2 i (by omega)
theorem M_row0 (h : rb_H) : RWm (rb_sF h 49 6 0) [] := ⟨by simp [hI_sI, hI_sJ, hI_sF, hI_sR, hI_cp, hJ_sI, hJ_sJ, hJ_sF, hJ_sR, hJ_cp, hF_sI, hF_sJ, hF_sF, hF_sR, hF_cp, hR_sI, hR_sJ, hR_sF, hR_sR, hR_cp]; rfl, fun i hi => absurd hi (Nat.not_lt_zero _)⟩
theorem C_row0 (h : rb_H) : RWc (rb_sF h 3 1 0) [] := ⟨by simp [hI_sI, hI_sJ, hI_sF, hI_sR, hI_cp, hJ_sI, hJ_sJ, hJ_sF, hJ_sR, hJ_cp, hF_sI, hF_sJ, hF_sF, hF_sR, hF_cp, hR_sI, hR_sJ, hR_sF, hR_sR, hR_cp]; rfl, fun i hi => absurd hi (Nat.not_lt_zero _)⟩
theorem M_tellA (w : Int64) (h : rb_H) : ∃ h', fM_tell w (rb_sF h 49 6 0) = some h' ∧ RWm h' [w] ∧ Ag [1006, 53] h h' := by
  obtain ⟨h1, q1, q2, q3⟩ := M_tell (M_row0 h) (by decide) w
  exact ⟨h1, q1, q2, Ag_trans (Ag_sF (by decide) (Ag_refl _ _)) q3⟩
/-- 27 numbers from one of the model's rows to another -/
theorem M_lay {o1 o2 k : Nat} (hne : o1 ≠ o2) (hl : k + 27 ≤ rb_len o2) (hk : rb_len o2 < 2 ^ 31) : ∃ h', fM_lay o1 o2 (nI k) h = some h' ∧ (∀ i, i < 27 → rb_hI h' o2 (k + i) = rb_hI h o1 i) ∧ (∀ j, j < k ∨ k + 27 ≤ j → rb_hI h' o2 j = rb_hI h o2 j) ∧ Ag [o2] h h' := by
  unfold fM_lay fM_lay_0
  have main : ∃ x, rb_iter rb_fuel (fun s => fM_lay_2b o1 o2 (nI k) s.1 s.2) ((0 : Int32), h) = some x ∧ ((∀ i, i < 27 → rb_hI x o2 (k + i) = rb_hI h o1 i) ∧ (∀ j, j < k ∨ k + 27 ≤ j → rb_hI x o2 j = rb_hI h o2 j) ∧ Ag [o2] h x) := by
    refine rb_runP (fun n s => s.1 = nI n ∧ (∀ i, i < n → rb_hI s.2 o2 (k + i) = rb_hI h o1 i) ∧ (∀ j, j < k ∨ k + 27 ≤ j → rb_hI s.2 o2 j = rb_hI h o2 j) ∧ Ag [o2] h s.2) _ 27 ⟨rfl, fun i hi => absurd hi (Nat.not_lt_zero _), fun _ _ => rfl, Ag_refl _ _⟩ (by omega) ?_ ?_
    · rintro n ⟨v, h1⟩ hn ⟨e, q1, q2, q3⟩
      dsimp only at e q1 q2 q3 ⊢
      subst e
      unfold fM_lay_2b
      rw [if_neg (show ¬ (27 : Int32) ≤ nI n from nI_ge (b := 27) hn (by omega)), if_neg (oob_n hn (by omega)), nI_add, if_neg (oob_n (show k + n < rb_len o2 by omega) (by omega)), cl_n (by omega), cl_n (by omega), nI_1]
      refine ⟨_, rfl, rfl, fun i hi => ?_, fun j hj => ?_, Ag_sI (by simp) q3⟩
      · rw [hI_sI]
        by_cases e : i = n
        · subst e
          rw [if_pos ⟨rfl, rfl⟩]
          exact AgI q3 (by simpa using hne) i
        · rw [if_neg (by omega)]
          exact q1 i (by omega)
      · rw [hI_sI, if_neg (by omega)]
        exact q2 j hj
    · rintro ⟨v, h1⟩ ⟨e, q1, q2, q3⟩
      dsimp only at e q1 q2 q3 ⊢
      subst e
      unfold fM_lay_2b
      rw [if_pos (by decide)]
      exact ⟨_, rfl, q1, q2, q3⟩
  obtain ⟨x, m1, m2, m3, m4⟩ := main
  rw [m1]
  exact ⟨x, rfl, m2, m3, m4⟩
theorem RG_lay {h' : rb_H} {o1 o2 k f : Nat} (hG : RG h o1 f B) (hN : bN B ≤ 8) (he : ∀ i, i < 27 → rb_hI h' o2 (k + i) = rb_hI h o1 (f + i)) : RG h' o2 k B := by
  refine ⟨(he 24 (by omega)).trans hG.1, (he 25 (by omega)).trans hG.2.1, (he 26 (by omega)).trans hG.2.2.1, fun i hi => ?_⟩
  have q := hG.2.2.2 i hi
  exact ⟨(he i (by omega)).trans q.1, (he (8 + i) (by omega)).trans q.2.1, (he (16 + i) (by omega)).trans q.2.2⟩
/-- a copy of a board of the model -/
theorem M_layB {a b : Nat} (hR : RM h a B) (hW : WF B) (hne : a ≠ b) (hb : b ≠ 51 ∧ b < 1000) (hl : rb_len b = 27) : ∃ h', fM_lay a b 0 h = some h' ∧ RM h' b B ∧ Ag [b] h h' := by
  obtain ⟨h', q1, q2, -, q4⟩ := M_lay (h := h) (o1 := a) (o2 := b) (k := 0) hne (by omega) (by omega)
  refine ⟨h', q1, ?_, q4⟩
  obtain ⟨r1, r2⟩ := RM_iff.mp hR
  refine RM_iff.mpr ⟨⟨(AgF (a := 49) (i := 2) q4 (show 1002 ∉ [b] from ?_)).trans r1.1, fun i hi => (AgI q4 (show 51 ∉ [b] by simpa using fun z => hb.1 z.symm) i).trans (r1.2 i hi)⟩, RG_lay r2 hW.1 (fun i hi => by rw [q2 i hi, Nat.zero_add])⟩
  simp
  omega
theorem ra24 : ∀ q, q < 12 → rb_ra 24 q = 112 + 6 * q := by decide +kernel
theorem rem12 {n : Nat} (h : n < 100) : rb_rem (nI n) 12 = nI (n % 12) := pk_rem (d := 12) (by omega) (by omega) (by omega)
theorem pP_mem {q : Nat} (hq : q < 12) {x : Nat} (hx : x ∈ sIds (112 + 6 * q)) : x ∈ pP :=
  List.mem_cons_of_mem _ (List.mem_flatten.mpr ⟨_, List.mem_map.mpr ⟨q, List.mem_range.mpr hq, rfl⟩, hx⟩)
theorem RS_other {h' : rb_H} {p q : Nat} {b : sBd} (hR : RS h (112 + 6 * p) b) (hA : Ag (sIds (112 + 6 * q)) h h') (hne : p ≠ q) : RS h' (112 + 6 * p) b := by
  refine RS_ag hR hA (by omega) (fun x hx z => ?_)
  unfold sIds at hx z
  simp only [List.mem_cons, List.not_mem_nil, or_false] at hx z
  omega
theorem C_past (hP : PAc h P) (hl : P.length ≤ 12) {o : Nat} (hR : RS h o B) (hW : WF B) (ho : o = 94 ∨ o = 100) : ∃ h', fP_add o h = some h' ∧ PAc h' (pushP P B) ∧ Ag pP h h' := by
  obtain ⟨f, hf, r1, r2, r3⟩ := hP
  unfold fP_add fP_add_0
  have hq : (f + P.length) % 12 < 12 := Nat.mod_lt _ (by decide)
  rw [r1, r2, nI_add, rem12 (by omega), if_neg (oob_n hq (by omega)), cl_n (by omega), ra24 _ hq]
  obtain ⟨h1, s1, s2, s3⟩ := S_copyFrom (o := 112 + 6 * ((f + P.length) % 12)) hR hW (by omega) (by omega)
  rw [s1]
  simp only [Option.bind_some]
  have e23 : ∀ k, rb_hF h1 23 k = rb_hF h 23 k := fun k => AgF (a := 23) (i := k) s3 (show 23 ∉ sIds _ by unfold sIds; simp only [List.mem_cons, List.not_mem_nil, or_false]; omega)
  have A1 : Ag pP h h1 := Ag_mono (fun x hx => pP_mem hq hx) s3
  have m23 : ∀ k, fid 23 k ∈ pP := fun k => List.mem_cons_self ..
  rw [e23, e23, r1, r2]
  by_cases hn : P.length < 12
  · rw [if_neg (show ¬ (12 : Int32) ≤ nI P.length from nI_ge (b := 12) hn (by omega)), nI_1]
    refine ⟨_, rfl, ⟨f, hf, ?_, ?_, fun i hi => ?_⟩, Ag_sF (m23 2) A1⟩
    · rw [hF_sF, if_neg (by decide), e23, r1]
    · unfold pushP
      rw [if_pos hn, hF_sF, if_pos ⟨rfl, rfl⟩]
      simp
    · unfold pushP at hi ⊢
      rw [if_pos hn] at hi ⊢
      simp only [List.length_append, List.length_cons, List.length_nil] at hi
      have keep : ∀ {b : sBd} {p : Nat}, p < 12 → RS h1 (112 + 6 * p) b → RS (rb_sF h1 23 2 (nI (P.length + 1))) (112 + 6 * p) b := fun hp hb => RS_ag (L := [23]) hb (Ag_sF (by simp [fid]) (Ag_refl _ _)) (by omega) (fun x hx z => by unfold sIds at hx; simp only [List.mem_cons, List.not_mem_nil, or_false] at hx z; omega)
      refine keep (Nat.mod_lt _ (by decide)) ?_
      rw [getD_app]
      by_cases e : i = P.length
      · rw [if_neg (by omega), if_pos e, e]
        exact s2
      · rw [if_pos (show i < P.length by omega)]
        exact RS_other (r3 i (by omega)) s3 (by omega)
  · have hn12 : P.length = 12 := by omega
    rw [hn12, if_pos (show (12 : Int32) ≤ nI 12 by decide), nI_1, rem12 (by omega)]
    refine ⟨_, rfl, ⟨(f + 1) % 12, Nat.mod_lt _ (by decide), ?_, ?_, fun i hi => ?_⟩, Ag_sF (m23 1) A1⟩
    · rw [hF_sF, if_pos ⟨rfl, rfl⟩]
    · unfold pushP
      rw [if_neg (by omega), hF_sF, if_neg (by decide), e23, r2]
      simp [hn12]
    · unfold pushP at hi ⊢
      rw [if_neg (by omega)] at hi ⊢
      simp only [List.length_append, List.length_cons, List.length_nil, List.length_drop] at hi
      have keep : ∀ {b : sBd} {p : Nat}, p < 12 → RS h1 (112 + 6 * p) b → RS (rb_sF h1 23 1 (nI ((f + 1) % 12))) (112 + 6 * p) b := fun hp hb => RS_ag (L := [23]) hb (Ag_sF (by simp [fid]) (Ag_refl _ _)) (by omega) (fun x hx z => by unfold sIds at hx; simp only [List.mem_cons, List.not_mem_nil, or_false] at hx z; omega)
      refine keep (Nat.mod_lt _ (by decide)) ?_
      rw [getD_app, List.length_drop, hn12]
      by_cases e : i = 11
      · rw [if_neg (by omega), if_pos (by omega), e]
        have : ((f + 1) % 12 + 11) % 12 = (f + P.length) % 12 := by omega
        rw [this]
        exact s2
      · rw [if_pos (by omega), getD_drop1]
        have : ((f + 1) % 12 + i) % 12 = (f + (i + 1)) % 12 := by omega
        rw [this]
        exact RS_other (r3 (i + 1) (by omega)) s3 (by omega)
theorem M_past49 (hP : PAm h P) (hl : P.length < 12) (hPN : ∀ b, b ∈ P → bN b ≤ 8) {a : Nat} (hG : RG h a 0 B) (hN : bN B ≤ 8) (ha : a ≠ 58) : ∃ h', fM_remember_49 a h = some h' ∧ PAm h' (P ++ [B]) ∧ Ag [1020, 58] h h' := by
  unfold fM_remember_49
  rw [hP.1, show (27 : Int32) * nI P.length = nI (27 * P.length) from pk_mul 27 P.length]
  obtain ⟨h1, q1, q2, q3, q4⟩ := M_lay (h := h) (o1 := a) (o2 := 58) (k := 27 * P.length) ha (by show 27 * P.length + 27 ≤ 324; omega) (by show 324 < _; omega)
  rw [q1]
  simp only [Option.bind_some]
  have A : Ag [1020, 58] h h1 := Ag_mono (by decide) q4
  refine ⟨_, rfl, ⟨?_, fun i hi => ?_⟩, Ag_sF (by decide) A⟩
  · rw [hF_sF, if_pos ⟨rfl, rfl⟩, AgF q4 (by decide), hP.1, nI_1]
    simp
  · simp only [List.length_append, List.length_cons, List.length_nil] at hi
    rw [getD_app]
    by_cases e : i = P.length
    · rw [if_neg (by omega), if_pos e, e]
      exact RG_ag (L := [1020]) (RG_lay hG hN (fun i hi => by rw [q2 i hi, Nat.zero_add])) (Ag_sF (by decide) (Ag_refl _ _)) (by decide)
    · rw [if_pos (show i < P.length by omega)]
      have g := hP.2 i (by omega)
      have same : ∀ j, j < 27 → rb_hI (rb_sF h1 49 20 (rb_hF h1 49 20 + 1)) 58 (27 * i + j) = rb_hI h 58 (27 * i + j) := fun j hj => by
        rw [hI_sF]
        exact q3 _ (by omega)
      exact RG_lay g (hPN _ (getD_mem (by omega))) same
theorem M_past (hP : PAm h P) (hl : P.length ≤ 12) (hPN : ∀ b, b ∈ P → bN b ≤ 8) {a : Nat} (hG : RG h a 0 B) (hN : bN B ≤ 8) (ha : a ≠ 58) (ha20 : a ≠ 1020) : ∃ h', fM_remember a h = some h' ∧ PAm h' (pushP P B) ∧ Ag [1020, 58] h h' := by
  unfold fM_remember fM_remember_0
  rw [hP.1]
  by_cases hn : P.length < 12
  · rw [if_neg (fun z => by have := (nI_eq (by omega) (by omega)).mp (show nI P.length = nI 12 from z); omega)]
    unfold pushP
    rw [if_pos hn]
    exact M_past49 hP hn hPN hG hN ha
  · have hn12 : P.length = 12 := by omega
    rw [if_pos (show nI P.length = 12 by rw [hn12]; rfl)]
    have main : ∃ x, rb_iter rb_fuel (fun s => fM_remember_11b a s.1 s.2) ((0 : Int32), h) = some x ∧ ((∀ i, i < 297 → rb_hI x 58 i = rb_hI h 58 (i + 27)) ∧ Ag [58] h x) := by
      refine rb_runP (fun n s => s.1 = nI n ∧ (∀ i, i < n → rb_hI s.2 58 i = rb_hI h 58 (i + 27)) ∧ (∀ j, n ≤ j → rb_hI s.2 58 j = rb_hI h 58 j) ∧ Ag [58] h s.2) _ 297 ⟨rfl, fun i hi => absurd hi (Nat.not_lt_zero _), fun _ _ => rfl, Ag_refl _ _⟩ (by omega) ?_ ?_
      · rintro n ⟨v, h1⟩ hn ⟨e, q1, q2, q3⟩
        dsimp only at e q1 q2 q3 ⊢
        subst e
        unfold fM_remember_11b
        rw [if_neg (show ¬ (297 : Int32) ≤ nI n from nI_ge (b := 297) hn (by omega)), show (nI n + 27 : Int32) = nI (n + 27) from nI_add n 27, if_neg (oob_n (show n + 27 < 324 by omega) (by omega)), if_neg (oob_n (show n < 324 by omega) (by omega)), cl_n (by omega), cl_n (by omega), nI_1]
        refine ⟨_, rfl, rfl, fun i hi => ?_, fun j hj => ?_, Ag_sI (by simp) q3⟩
        · rw [hI_sI]
          by_cases e : i = n
          · subst e
            rw [if_pos ⟨rfl, rfl⟩]
            exact q2 _ (by omega)
          · rw [if_neg (by omega)]
            exact q1 i (by omega)
        · rw [hI_sI, if_neg (by omega)]
          exact q2 j (by omega)
      · rintro ⟨v, h1⟩ ⟨e, q1, q2, q3⟩
        dsimp only at e q1 q2 q3 ⊢
        subst e
        unfold fM_remember_11b
        rw [if_pos (by decide)]
        exact ⟨_, rfl, q1, q3⟩
    obtain ⟨x, m1, m2, m3⟩ := main
    rw [m1]
    simp only [Option.bind_some]
    have ha58 : a ∉ [58] := by simpa using ha
    have hP1 : PAm (rb_sF x 49 20 (rb_hF x 49 20 - 1)) (P.drop 1) := by
      refine ⟨?_, fun i hi => ?_⟩
      · rw [hF_sF, if_pos ⟨rfl, rfl⟩, AgF m3 (by decide), hP.1, List.length_drop, hn12]
        rfl
      · rw [List.length_drop, hn12] at hi
        rw [getD_drop1]
        refine RG_lay (hP.2 (i + 1) (by omega)) (hPN _ (getD_mem (by omega))) (fun j hj => ?_)
        rw [hI_sF, m2 _ (by omega)]
        congr 1
        omega
    have hG1 : RG (rb_sF x 49 20 (rb_hF x 49 20 - 1)) a 0 B := RG_ag (L := [1020]) (RG_ag hG m3 ha58) (Ag_sF (by decide) (Ag_refl _ _)) (fun z => ha20 (by simpa using z))
    obtain ⟨h', q1, q2, q3⟩ := M_past49 hP1 (by rw [List.length_drop, hn12]; decide) (fun b hb => hPN b (List.mem_of_mem_drop hb)) hG1 hN ha
    refine ⟨h', q1, ?_, Ag_trans (Ag_sF (by decide) (Ag_mono (by decide) m3)) q3⟩
    unfold pushP
    rw [if_neg hn]
    exact q2
end
