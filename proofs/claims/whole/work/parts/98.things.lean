/-! the model's descent beside the class's machine -/
def thM (h : rb_H) (i : Nat) : Int32 := if i < 7 then (if rb_hF h 49 17 = 0 then 0 else rb_hI h 57 i) else 0
theorem thM_ag {L : List Nat} {h h' : rb_H} (hA : Ag L h h') (hL : NL [1017, 57] L = true) : thM h' = thM h := by
  funext i
  unfold thM
  rw [AgF (a := 49) (i := 17) hA (NL_at hL (by decide)), AgI hA (NL_at hL (x := 57) (by decide)) i]
def cmpt (C : List Int32) (v : (Nat → Int32) → Int32) : Prop := ∀ th st, xs th C.reverse st = v th :: st
def okB (x : Int32) : Prop := (1000 : Int32) + x ≠ 1256 ∧ (1000 : Int32) ≤ 1000 + x ∧ (1000 : Int32) + x - 1000 = x
theorem cmpt_bin {C C2 : List Int32} {v v2 : (Nat → Int32) → Int32} {x : Int32} (h1 : cmpt C v) (h2 : cmpt C2 v2) (hx : okB x) : cmpt ((1000 + x) :: (C2 ++ C)) (fun th => xB x (v th) (v2 th)) := by
  intro th st
  have e1 := h1 th st
  have e2 := h2 th (v th :: st)
  unfold xs at e1 e2 ⊢
  rw [List.reverse_cons, List.reverse_append, List.foldl_append, List.foldl_append, e1, e2]
  show x1 th (v2 th :: v th :: st) (1000 + x) = _
  unfold x1
  rw [if_neg hx.1, if_pos hx.2.1, hx.2.2]
theorem cmpt_neg {C : List Int32} {v : (Nat → Int32) → Int32} (h1 : cmpt C v) : cmpt ((1000 + 256) :: C) (fun th => -v th) := by
  intro th st
  have e1 := h1 th st
  unfold xs at e1 ⊢
  rw [List.reverse_cons, List.foldl_append, e1]
  show x1 th (v th :: st) (1000 + 256) = _
  unfold x1
  rw [if_pos (by decide)]
theorem cmpt_num {k : Nat} (hk : k < 1000) : cmpt [nI k] (fun _ => nI k) := by
  intro th st
  show x1 th st (nI k) = _
  unfold x1
  rw [if_neg (fun z => by have := (nI_eq (b := 1256) (show k < 2 ^ 31 by omega) (by omega)).mp z; omega), if_neg (show ¬ (1000 : Int32) ≤ nI k from nI_ge (b := 1000) hk (by omega)), if_pos (nI_pos' (by omega))]
def mAll : List Int32 → List Int32 → List Int32
  | [], o => o
  | a :: w, o => mAll w ((1000 + a) :: o)
theorem mAll_app : ∀ (W1 W2 o : List Int32), mAll (W1 ++ W2) o = mAll W2 (mAll W1 o)
  | [], _, _ => rfl
  | a :: W1, W2, o => mAll_app W1 W2 ((1000 + a) :: o)
/-- what stands on top binds less than r -/
def topL (w : List Int32) (r : Int32) : Prop := ∀ a, w.head? = some a → fU_rankOf a < r
theorem mRel_all (r : Int32) : ∀ (W o w : List Int32), (∀ a, a ∈ W → ¬ fU_rankOf a < r) → topL w r → mRel r o (W ++ w) = (mAll W o, w)
  | [], o, w, _, ht => by
    cases w with
    | nil => rfl
    | cons a w =>
      show mRel r o (a :: w) = _
      unfold mRel
      rw [if_pos (ht a rfl)]
      rfl
  | a :: W, o, w, hW, ht => by
    show mRel r o (a :: (W ++ w)) = _
    unfold mRel
    rw [if_neg (hW a (List.mem_cons_self ..)), mRel_all r W _ w (fun b hb => hW b (List.mem_cons_of_mem _ hb)) ht]
    rfl
noncomputable def mG (X : List Nat) (p : Nat) (s : sM) : Nat ⊕ sM := mGo (sgX X) (min X.length 40 - p) p s
section
variable {X : List Nat} {p : Nat} {s s' : sM}
theorem mG_step (hp : p < min X.length 40) (e : mTake s (nI (X.getD p 0)) = some s') : mG X p s = mG X (p + 1) s' := by
  unfold mG
  rw [show min X.length 40 - p = (min X.length 40 - (p + 1)) + 1 by omega]
  exact mGo_some e
theorem mG_none (hp : p < min X.length 40) (e : mTake s (nI (X.getD p 0)) = none) : mG X p s = .inl p := by
  unfold mG
  rw [show min X.length 40 - p = (min X.length 40 - (p + 1)) + 1 by omega]
  exact mGo_none e
theorem mG_end (hp : ¬ p < min X.length 40) : mG X p s = .inr s := by
  unfold mG
  rw [show min X.length 40 - p = 0 by omega]
  rfl
end
/-- the machine from a place on: it fails at q -/
def rp_F (X : List Nat) (p : Nat) (s : sM) (q : Nat) : Prop := mG X p s = .inl q ∨ (q = min X.length 40 ∧ ∃ s', mG X p s = .inr s' ∧ (s'.2.2.2.2.1 = true ∨ 0 < s'.2.2.1))
theorem rp_F_eq {X : List Nat} {p p' q : Nat} {s s' : sM} (e : mG X p s = mG X p' s') (h : rp_F X p' s' q) : rp_F X p s q := by
  unfold rp_F at h ⊢
  rw [e]
  exact h
/-- the model from a place on -/
def rp_O (F : rb_H → Option (Int32 × rb_H)) (X : List Nat) (p q : Nat) (w : Int32) (v : (Nat → Int32) → Int32) : Prop := ∀ h a, rp_M h a X 40 p (-1) → ∃ x h', F h = some (x, h') ∧ rp_M h' a X 40 q w ∧ Ag [1011, 1012] h h' ∧ (w = -1 → x = v (thM h))
/-- what can't follow -/
def rp_S (X : List Nat) (l q g : Nat) (cd : Bool) : Prop := (fB_isDigit (hereN X 40 q) = true → g < 1 ∨ 3 ≤ g) ∧ (l ≤ 3 → hereN X 40 q ≠ 42 ∧ hereN X 40 q ≠ 47) ∧ (l ≤ 2 → hereN X 40 q ≠ 43 ∧ hereN X 40 q ≠ 45) ∧ (l ≤ 1 → (hereN X 40 q = 60 ∨ hereN X 40 q = 62 ∨ hereN X 40 q = 61) → cd = true)
def rp_E (X : List Nat) (l p : Nat) (o w : List Int32) (d g : Nat) (c : Nat → Bool) (q : Nat) (o' W : List Int32) (g' : Nat) (c' : Nat → Bool) (C : List Int32) (v : (Nat → Int32) → Int32) : Prop := p < q ∧ q ≤ min X.length 40 ∧ mG X p (o, w, d, g, true, c) = mG X q (o', W ++ w, d, g', false, c') ∧ (∀ a, a ∈ W → ¬ fU_rankOf a < nI l) ∧ mAll W o' = C ++ o ∧ cmpt C v ∧ C ≠ [] ∧ (∀ i, i < d ∨ (l ≠ 1 ∧ i = d) → c' i = c i) ∧ rp_S X l q g' (c' d)
def rp_D (X : List Nat) (F : rb_H → Option (Int32 × rb_H)) (l p : Nat) (o w : List Int32) (d g : Nat) (c : Nat → Bool) : Prop := (∃ q o' W g' c' C v, rp_E X l p o w d g c q o' W g' c' C v ∧ rp_O F X p q (-1) v) ∨ ∃ q, p ≤ q ∧ q ≤ min X.length 40 ∧ rp_F X p (o, w, d, g, true, c) q ∧ rp_O F X p q (nI q) (fun _ => 0)
theorem rk_one : ∀ k, k < 256 → fU_rankOf (nI k) = 1 → nI k = 60 ∨ nI k = 62 ∨ nI k = 61 := by decide +kernel
theorem rk_more : ∀ k, k < 256 → ¬ fU_rankOf (nI k) < 1 → fU_rankOf (nI k) ≠ 1 → nI k = 42 ∨ nI k = 47 ∨ nI k = 43 ∨ nI k = 45 := by decide +kernel
section
variable {X : List Nat} {p q d g : Nat} {o w : List Int32} {c : Nat → Bool}
/-- nothing can be taken behind a whole expression but a bracket that closes -/
theorem take_none (hX : rp_X X 40) (hq : q < min X.length 40) (hS : rp_S X 1 q g (c d)) (h41 : hereN X 40 q ≠ 41 ∨ d = 0) : mTake (o, w, d, g, false, c) (nI (X.getD q 0)) = none := by
  have hk := hX.2.1 _ (getD_mem (d := 0) (show q < X.length by omega))
  obtain ⟨s1, s2, s3, s4⟩ := hS
  rw [hereN_y hq] at s1 s2 s3 s4 h41
  generalize X.getD q 0 = k at *
  unfold mTake
  dsimp only
  by_cases i1 : fB_isDigit (nI k) = true
  · rw [if_pos i1, if_neg (by decide)]
    rcases s1 i1 with z | z
    · rw [if_pos z]
    · by_cases y : g < 1
      · rw [if_pos y]
      · rw [if_neg y, if_pos z]
  · rw [if_neg i1, if_neg (by decide)]
    by_cases i2 : nI k = 41
    · rw [if_pos i2]
      rcases h41 with z | z
      · exact absurd i2 z
      · rw [if_neg (by omega)]
    · rw [if_neg i2]
      by_cases i3 : fU_rankOf (nI k) < 1
      · rw [if_pos i3]
      · rw [if_neg i3]
        by_cases i4 : fU_rankOf (nI k) = 1
        · rw [if_pos i4, if_pos (s4 (by omega) (rk_one k hk i4))]
        · rcases rk_more k hk i3 i4 with z | z | z | z
          · exact absurd z (s2 (by omega)).1
          · exact absurd z (s2 (by omega)).2
          · exact absurd z (s3 (by omega)).1
          · exact absurd z (s3 (by omega)).2
/-- numbers -/
theorem rp_num (hX : rp_X X 40) : ∀ (j i q x : Nat), i + j = 3 → 1 ≤ i → (i = 1 → x < 10) → (i = 2 → x < 100) → x < 1000 → q ≤ min X.length 40 → ∃ q' g' x', q ≤ q' ∧ q' ≤ min X.length 40 ∧ x' < 1000 ∧ mG X q (nI x :: o, w, d, i, false, c) = mG X q' (nI x' :: o, w, d, g', false, c) ∧ (fB_isDigit (hereN X 40 q') = true → g' < 1 ∨ 3 ≤ g') ∧ ∀ (h : rb_H) (a m : Nat), rp_M h a X 40 q (-1) → j < m → ∃ h', rb_iter m (fun s => fM_number_11b 3 s.1 s.2.1 s.2.2) (nI x, nI i, h) = some (nI x', h') ∧ rp_M h' a X 40 q' (-1) ∧ Ag [1011, 1012] h h'
  | 0, i, q, x, hi, h1, b1, b2, b3, hq => by
    refine ⟨q, i, x, Nat.le_refl _, hq, b3, rfl, fun _ => Or.inr (by omega), fun h a m hM hm => ?_⟩
    obtain ⟨m, rfl⟩ : ∃ k, m = k + 1 := ⟨m - 1, by omega⟩
    refine ⟨h, rb_iter_inr ?_, hM, Ag_refl _ _⟩
    unfold fM_number_11b
    exact if_pos (show (3 : Int32) ≤ nI i from nI_le (a := 3) (by omega) (by omega))
  | j + 1, i, q, x, hi, h1, b1, b2, b3, hq => by
    have stop : ¬ fB_isDigit (hereN X 40 q) = true → ∃ q' g' x', q ≤ q' ∧ q' ≤ min X.length 40 ∧ x' < 1000 ∧ mG X q (nI x :: o, w, d, i, false, c) = mG X q' (nI x' :: o, w, d, g', false, c) ∧ (fB_isDigit (hereN X 40 q') = true → g' < 1 ∨ 3 ≤ g') ∧ ∀ (h : rb_H) (a m : Nat), rp_M h a X 40 q (-1) → j + 1 < m → ∃ h', rb_iter m (fun s => fM_number_11b 3 s.1 s.2.1 s.2.2) (nI x, nI i, h) = some (nI x', h') ∧ rp_M h' a X 40 q' (-1) ∧ Ag [1011, 1012] h h' := fun no => by
      refine ⟨q, i, x, Nat.le_refl _, hq, b3, rfl, fun z => absurd z no, fun h a m hM hm => ?_⟩
      obtain ⟨m, rfl⟩ : ∃ k, m = k + 1 := ⟨m - 1, by omega⟩
      refine ⟨h, rb_iter_inr ?_, hM, Ag_refl _ _⟩
      unfold fM_number_11b
      rw [if_neg (show ¬ (3 : Int32) ≤ nI i from nI_ge (b := 3) (by omega) (by omega)), rp_fine hM, if_pos rfl, rp_here hM hX (by omega), Option.bind_some, if_neg (show ¬ fM_in (hereN X 40 q) 48 57 = true from no)]
    by_cases c0 : q < min X.length 40
    · have hk := hX.2.1 _ (getD_mem (d := 0) (show q < X.length by omega))
      by_cases i1 : fB_isDigit (hereN X 40 q) = true
      · have i2 := i1
        rw [hereN_y c0] at i1
        have r := i1
        have e : fB_isDigit (nI (X.getD q 0)) = (decide (48 ≤ X.getD q 0) && decide (X.getD q 0 ≤ 57)) := M_in_n (a := 48) (b := 57) (by omega) (by omega) (by omega)
        rw [e] at r
        simp only [Bool.and_eq_true, decide_eq_true_eq] at r
        obtain ⟨q', g', x', r1, r2, r3, r4, r5, r6⟩ := rp_num hX j (i + 1) (q + 1) (10 * x + (X.getD q 0 - 48)) (by omega) (by omega) (by omega) (by omega) (by omega) (by omega)
        have ex : (10 : Int32) * nI x + (nI (X.getD q 0) - 48) = nI (10 * x + (X.getD q 0 - 48)) := by
          rw [show (10 : Int32) * nI x = nI (10 * x) from pk_mul 10 x, show nI (X.getD q 0) - 48 = nI (X.getD q 0 - 48) from nI_sub (b := 48) r.1, nI_add]
        refine ⟨q', g', x', by omega, r2, r3, ?_, r5, fun h a m hM hm => ?_⟩
        · rw [← r4]
          refine mG_step c0 ?_
          unfold mTake
          dsimp only
          rw [if_pos i1, if_neg (by decide), if_neg (by omega), if_neg (by omega)]
          dsimp only [mDig]
          rw [ex]
        · obtain ⟨m, rfl⟩ : ∃ k, m = k + 1 := ⟨m - 1, by omega⟩
          rcases rp_oneOf (f := 48) (m := 10) hM hX (by omega) (by omega) (by omega) with ⟨k, k1, k2, k3, k4, k5, k6⟩ | ⟨k1, k2⟩
          · obtain ⟨h', z1, z2, z3⟩ := r6 _ a m (rp_M_at hM (q + 1)) (by omega)
            refine ⟨h', ?_, z2, Ag_trans (Ag_sF (by decide) (Ag_refl _ _)) z3⟩
            rw [← z1]
            refine rb_iter_inl ?_
            unfold fM_number_11b
            dsimp only
            rw [if_neg (show ¬ (3 : Int32) ≤ nI i from nI_ge (b := 3) (by omega) (by omega)), rp_fine hM, if_pos rfl, rp_here hM hX (by omega), Option.bind_some, if_pos (show fM_in (hereN X 40 q) 48 57 = true from i2), show fM_oneOf (48 : Int32) 10 h = _ from k6, Option.bind_some, nI_1, ← k3, show (10 : Int32) * nI x = nI (10 * x) from pk_mul 10 x, nI_add]
          · omega
      · exact stop i1
    · refine stop (fun z => ?_)
      rw [hereN_n c0] at z
      revert z
      decide
end
