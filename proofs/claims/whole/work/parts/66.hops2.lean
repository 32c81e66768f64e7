/-! hops: the model -/
/-- what is known of the distances behind k rounds -/
def FI (go : Nat → Nat → Bool) (fr : Nat → Bool) (g k : Nat) (F : Nat → Nat) : Prop := (∀ s, s < 25 → F s ≤ 1000000) ∧ (∀ s, s < 25 → GG fr g s → F s < 1000000 → ∃ j, j ≤ F s ∧ Lv go fr g j s = true) ∧ ∀ s, s < 25 → ∀ j, j ≤ k → Lv go fr g j s = true → F s ≤ j
section
variable {go : Nat → Nat → Bool} {fr : Nat → Bool} {g k : Nat} {F : Nat → Nat}
theorem FI_upd (h : FI go fr g k F) {s m : Nat} (hs : s < 25) (hm : m < 25) (hlt : F m + 1 < F s) (hc : m = g ∨ fr m = true) (hg : go s m = true) : FI go fr g k (fun x => if x = s then F m + 1 else F x) := by
  obtain ⟨h1, h2, h3⟩ := h
  refine ⟨fun x hx => ?_, fun x hx hG hl => ?_, fun x hx j hj hl => ?_⟩
  · dsimp only
    have a := h1 s hs
    have b := h1 x hx
    split <;> omega
  · dsimp only at hl ⊢
    by_cases e : x = s
    · rw [if_pos e] at hl ⊢
      have := h1 s hs
      obtain ⟨j, j1, j2⟩ := h2 m hm hc (by omega)
      subst e
      obtain ⟨i, i1, i2⟩ := Lv_next hG hm j2 hg
      exact ⟨i, by omega, i2⟩
    · rw [if_neg e] at hl ⊢
      exact h2 x hx hG hl
  · dsimp only
    have := h3 x hx j hj hl
    by_cases e : x = s
    · rw [if_pos e]
      subst e
      omega
    · rw [if_neg e]; exact this
/-- what is known behind all rounds -/
theorem FI_is (h : FI go fr g 24 F) {s j : Nat} (hs : s < 25) (hG : GG fr g s) (hj : j ≤ 24) : F s = j ↔ Lv go fr g j s = true := by
  obtain ⟨h1, h2, h3⟩ := h
  constructor
  · intro e
    obtain ⟨i, i1, i2⟩ := h2 s hs hG (by omega)
    have := h3 s hs i (by omega) i2
    have : i = j := by omega
    rw [← this]; exact i2
  · intro hl
    have a := h3 s hs j hj hl
    obtain ⟨i, i1, i2⟩ := h2 s hs hG (by omega)
    have := Lv_one i2 hl
    omega
end
/-- the model's numbers of moves -/
def HF (h : rb_H) (F : Nat → Nat) : Prop := ∀ s, s < 25 → rb_hI h 63 s = nI (F s)
theorem HF_upd {h : rb_H} {F : Nat → Nat} (hF : HF h F) {s v : Nat} : HF (rb_sI h 63 s (nI v)) (fun x => if x = s then v else F x) := by
  intro x hx
  dsimp only
  rw [hI_sI]
  by_cases e : x = s
  · rw [if_pos ⟨rfl, e⟩, if_pos e]
  · rw [if_neg (fun z => e z.2), if_neg e]; exact hF x hx
theorem M_hopsIn {h : rb_H} {B : sBd} (hR : RM h 50 B) (hW : WF B) {p g k s : Nat} (hp : p < bN B) (hg : g < 25) (hs : s < 25) (v3 : Int32) {F : Nat → Nat} (hF : HF h F) (hI : FI (goB B p) (frB B p) g k F) : ∃ x, rb_iter rb_fuel (fun z => fM_hops_89b (nI p) (nI g) v3 (nI s) z.1 z.2) ((0 : Int32), h) = some x ∧ (Ag [63] h x ∧ ∃ F', HF x F' ∧ FI (goB B p) (frB B p) g k F' ∧ (∀ u, u ≠ s → F' u = F u) ∧ (Lv (goB B p) (frB B p) g (k + 1) s = true → F' s ≤ k + 1)) := by
  have h8 := hW.1
  have main : ∃ x, rb_iter rb_fuel (fun z => fM_hops_89b (nI p) (nI g) v3 (nI s) z.1 z.2) ((0 : Int32), h) = some x ∧ (Ag [63] h x ∧ ∃ F', HF x F' ∧ FI (goB B p) (frB B p) g k F' ∧ (∀ u, u ≠ s → F' u = F u) ∧ ∀ t, t < 25 → Lv (goB B p) (frB B p) g k t = true → goB B p s t = true → F' s ≤ k + 1) := by
    refine rb_runP (fun m z => z.1 = nI m ∧ Ag [63] h z.2 ∧ ∃ F', HF z.2 F' ∧ FI (goB B p) (frB B p) g k F' ∧ (∀ u, u ≠ s → F' u = F u) ∧ ∀ t, t < m → Lv (goB B p) (frB B p) g k t = true → goB B p s t = true → F' s ≤ k + 1) _ 25 ⟨rfl, Ag_refl _ _, F, hF, hI, fun _ _ => rfl, fun t ht => absurd ht (Nat.not_lt_zero _)⟩ (by omega) ?_ ?_
    · rintro m ⟨w, h1⟩ hm ⟨e, hA, F', q1, q2, q3, q4⟩
      dsimp only at e hA q1 ⊢
      subst e
      have R1 := RMn_ag hR hA (by decide)
      have bm := q2.1 m hm
      have bs := q2.1 s hs
      have el : nI (F' s) ≤ nI (F' m + 1) ↔ F' s ≤ F' m + 1 := nI_leI (by omega) (by omega)
      have eg : nI m = nI g ↔ m = g := nI_eq (by omega) (by omega)
      -- nothing changes
      have stay : (Lv (goB B p) (frB B p) g k m = true → goB B p s m = true → F' s ≤ F' m + 1) → ∃ z', fM_hops_163l89 (nI p) (nI g) v3 (nI s) (nI m) h1 = some (Sum.inl z') ∧ (z'.1 = nI (m + 1) ∧ Ag [63] h z'.2 ∧ ∃ F', HF z'.2 F' ∧ FI (goB B p) (frB B p) g k F' ∧ (∀ u, u ≠ s → F' u = F u) ∧ ∀ t, t < m + 1 → Lv (goB B p) (frB B p) g k t = true → goB B p s t = true → F' s ≤ k + 1) := by
        intro hc
        unfold fM_hops_163l89
        refine ⟨_, rfl, nI_1 _, hA, F', q1, q2, q3, fun t ht hl hg => ?_⟩
        by_cases e : t = m
        · subst e
          have a := hc hl hg
          have b := q2.2.2 t hm k (Nat.le_refl k) hl
          omega
        · exact q4 t (by omega) hl hg
      -- the step is tried
      have tryit : F' m + 1 < F' s → (m = g ∨ frB B p m = true) → ∃ z', fM_hops_131l89 (nI p) (nI g) v3 (nI s) (nI m) h1 = some (Sum.inl z') ∧ (z'.1 = nI (m + 1) ∧ Ag [63] h z'.2 ∧ ∃ F', HF z'.2 F' ∧ FI (goB B p) (frB B p) g k F' ∧ (∀ u, u ≠ s → F' u = F u) ∧ ∀ t, t < m + 1 → Lv (goB B p) (frB B p) g k t = true → goB B p s t = true → F' s ≤ k + 1) := by
        intro hlt hc
        unfold fM_hops_131l89
        simp only [M_canGo R1 hW hp hs hm, Option.bind_some, if_neg (oob_n hm (by omega)), if_neg (oob_n hs (by omega)), cl_n (show m < 2 ^ 31 by omega), cl_n (show s < 2 ^ 31 by omega), q1 m hm, nI_1]
        by_cases cg : goB B p s m = true
        · rw [if_pos cg]
          unfold fM_hops_163l89
          refine ⟨_, rfl, nI_1 _, Ag_sI (by simp) hA, _, HF_upd q1, FI_upd q2 hs hm hlt hc cg, fun u hu => ?_, fun t ht hl hg => ?_⟩
          · rw [if_neg hu]
            exact q3 u hu
          · rw [if_pos rfl]
            by_cases e : t = m
            · subst e
              have b := q2.2.2 t hm k (Nat.le_refl k) hl
              omega
            · have := q4 t (by omega) hl hg
              omega
        · rw [if_neg cg]
          exact stay (fun _ z => absurd z cg)
      unfold fM_hops_89b
      simp only [if_neg (show ¬ (25 : Int32) ≤ nI m from nI_ge (b := 25) hm (by omega)), if_neg (oob_n hm (by omega)), if_neg (oob_n hs (by omega)), cl_n (show m < 2 ^ 31 by omega), cl_n (show s < 2 ^ 31 by omega), q1 m hm, q1 s hs, nI_1, el, eg, M_isFree R1 hW hp hm, Option.bind_some]
      by_cases c : F' s ≤ F' m + 1
      · rw [if_pos c]
        exact stay (fun _ _ => c)
      · rw [if_neg c]
        by_cases c2 : m = g
        · rw [if_pos c2]
          exact tryit (by omega) (Or.inl c2)
        · rw [if_neg c2]
          by_cases c3 : frB B p m = true
          · rw [if_pos c3]
            exact tryit (by omega) (Or.inr c3)
          · rw [if_neg c3]
            exact stay (fun hl _ => absurd (Lv_G hl) (fun z => z.elim c2 c3))
    · rintro ⟨w, h1⟩ ⟨e, hA, F', q1, q2, q3, q4⟩
      dsimp only at e hA q1 ⊢
      subst e
      unfold fM_hops_89b
      rw [if_pos (by decide)]
      exact ⟨_, rfl, hA, F', q1, q2, q3, q4⟩
  obtain ⟨x, m1, m2, F', m3, m4, m5, m6⟩ := main
  refine ⟨x, m1, m2, F', m3, m4, m5, fun hl => ?_⟩
  rw [Lv_s] at hl
  simp only [Bool.and_eq_true] at hl
  obtain ⟨t, t1, t2, t3⟩ := toB_iff.mp hl.1
  exact m6 t t1 t3 t2
theorem M_hopsRound {h : rb_H} {B : sBd} (hR : RM h 50 B) (hW : WF B) {p g k : Nat} (hp : p < bN B) (hg : g < 25) (v3 : Int32) {F : Nat → Nat} (hF : HF h F) (hI : FI (goB B p) (frB B p) g k F) : ∃ x, rb_iter rb_fuel (fun z => fM_hops_79b (nI p) (nI g) v3 z.1 z.2) ((0 : Int32), h) = some x ∧ (Ag [63] h x ∧ ∃ F', HF x F' ∧ FI (goB B p) (frB B p) g (k + 1) F') := by
  have main : ∃ x, rb_iter rb_fuel (fun z => fM_hops_79b (nI p) (nI g) v3 z.1 z.2) ((0 : Int32), h) = some x ∧ (Ag [63] h x ∧ ∃ F', HF x F' ∧ FI (goB B p) (frB B p) g k F' ∧ ∀ s, s < 25 → Lv (goB B p) (frB B p) g (k + 1) s = true → F' s ≤ k + 1) := by
    refine rb_runP (fun m z => z.1 = nI m ∧ Ag [63] h z.2 ∧ ∃ F', HF z.2 F' ∧ FI (goB B p) (frB B p) g k F' ∧ ∀ s, s < m → Lv (goB B p) (frB B p) g (k + 1) s = true → F' s ≤ k + 1) _ 25 ⟨rfl, Ag_refl _ _, F, hF, hI, fun s hs => absurd hs (Nat.not_lt_zero _)⟩ (by omega) ?_ ?_
    · rintro m ⟨w, h1⟩ hm ⟨e, hA, F', q1, q2, q3⟩
      dsimp only at e hA q1 ⊢
      subst e
      obtain ⟨x, z1, z2, F2, z3, z4, z5, z6⟩ := M_hopsIn (RMn_ag hR hA (by decide)) hW hp hg hm v3 q1 q2
      unfold fM_hops_79b
      rw [if_neg (show ¬ (25 : Int32) ≤ nI m from nI_ge (b := 25) hm (by omega)), z1]
      refine ⟨_, rfl, nI_1 _, Ag_trans hA z2, F2, z3, z4, fun s hs hl => ?_⟩
      by_cases e : s = m
      · subst e; exact z6 hl
      · rw [z5 s e]; exact q3 s (by omega) hl
    · rintro ⟨w, h1⟩ ⟨e, hA, F', q1, q2, q3⟩
      dsimp only at e hA q1 ⊢
      subst e
      unfold fM_hops_79b
      rw [if_pos (by decide)]
      exact ⟨_, rfl, hA, F', q1, q2, q3⟩
  obtain ⟨x, m1, m2, F', m3, m4, m5⟩ := main
  refine ⟨x, m1, m2, F', m3, m4.1, m4.2.1, fun s hs j hj hl => ?_⟩
  by_cases e : j = k + 1
  · subst e; exact m5 s hs hl
  · exact m4.2.2 s hs j (by omega) hl
theorem M_hopsAll {h : rb_H} {B : sBd} (hR : RM h 50 B) (hW : WF B) {p g : Nat} (hp : p < bN B) (hg : g < 25) : ∃ x y, rb_iter rb_fuel (fun z => fM_hops_38b (nI p) (nI g) z.1 z.2) ((0 : Int32), h) = some x ∧ rb_iter rb_fuel (fun z => fM_hops_70b (nI p) (nI g) z.1 z.2) ((1 : Int32), x) = some y ∧ Ag [63] h y ∧ ∃ F, HF y F ∧ FI (goB B p) (frB B p) g 24 F := by
  have a : ∃ x, rb_iter rb_fuel (fun z => fM_hops_38b (nI p) (nI g) z.1 z.2) ((0 : Int32), h) = some x ∧ (Ag [63] h x ∧ ∀ s, s < 25 → rb_hI x 63 s = nI (if s = g then 0 else 1000000)) := by
    refine rb_runP (fun m z => z.1 = nI m ∧ Ag [63] h z.2 ∧ ∀ s, s < m → rb_hI z.2 63 s = nI (if s = g then 0 else 1000000)) _ 25 ⟨rfl, Ag_refl _ _, fun s hs => absurd hs (Nat.not_lt_zero _)⟩ (by omega) ?_ ?_
    · rintro m ⟨w, h1⟩ hm ⟨e, hA, hI⟩
      dsimp only at e hA hI ⊢
      subst e
      have eg : nI m = nI g ↔ m = g := nI_eq (by omega) (by omega)
      have fin : ∀ v : Int32, v = nI (if m = g then 0 else 1000000) → ∃ z', fM_hops_61l38 (nI p) (nI g) (nI m) v (nI m) h1 = some (Sum.inl z') ∧ (z'.1 = nI (m + 1) ∧ Ag [63] h z'.2 ∧ ∀ s, s < m + 1 → rb_hI z'.2 63 s = nI (if s = g then 0 else 1000000)) := by
        intro v hv
        unfold fM_hops_61l38
        rw [if_neg (oob_n hm (by omega)), cl_n (by omega)]
        refine ⟨_, rfl, nI_1 _, Ag_sI (by simp) hA, fun s hs => ?_⟩
        rw [hI_sI]
        by_cases e : s = m
        · rw [if_pos ⟨rfl, e⟩, e]; exact hv
        · rw [if_neg (fun z => e z.2)]; exact hI s (by omega)
      unfold fM_hops_38b
      rw [if_neg (show ¬ (25 : Int32) ≤ nI m from nI_ge (b := 25) hm (by omega))]
      by_cases c : m = g
      · rw [if_pos (eg.mpr c)]
        exact fin 0 (by rw [if_pos c]; rfl)
      · rw [if_neg (fun z => c (eg.mp z))]
        exact fin 1000000 (by rw [if_neg c]; rfl)
    · rintro ⟨w, h1⟩ ⟨e, hA, hI⟩
      dsimp only at e hA hI ⊢
      subst e
      unfold fM_hops_38b
      rw [if_pos (by decide)]
      exact ⟨_, rfl, hA, hI⟩
  obtain ⟨x, m1, m2, m3⟩ := a
  have F0 : FI (goB B p) (frB B p) g 0 (fun s => if s = g then 0 else 1000000) := by
    refine ⟨fun s _ => ?_, fun s _ _ hl => ?_, fun s _ j hj hl => ?_⟩
    · dsimp only; split <;> omega
    · dsimp only at hl
      by_cases e : s = g
      · exact ⟨0, Nat.zero_le _, by rw [Lv_0]; simp [e]⟩
      · rw [if_neg e] at hl; omega
    · have : j = 0 := by omega
      subst this
      rw [Lv_0] at hl
      have := of_decide_eq_true hl
      dsimp only
      rw [if_pos this]
      omega
  have hF0 : ∃ F, HF x F ∧ FI (goB B p) (frB B p) g 0 F := ⟨_, m3, F0⟩
  have b : ∃ y, rb_iter rb_fuel (fun z => fM_hops_70b (nI p) (nI g) z.1 z.2) ((1 : Int32), x) = some y ∧ (Ag [63] h y ∧ ∃ F, HF y F ∧ FI (goB B p) (frB B p) g 24 F) := by
    refine rb_runP (fun k z => z.1 = nI (k + 1) ∧ Ag [63] h z.2 ∧ ∃ F, HF z.2 F ∧ FI (goB B p) (frB B p) g k F) _ 24 ⟨rfl, m2, hF0⟩ (by omega) ?_ ?_
    · rintro k ⟨w, h1⟩ hk ⟨e, hA, F, q1, q2⟩
      dsimp only at e hA q1 ⊢
      subst e
      obtain ⟨y, z1, z2, F', z3, z4⟩ := M_hopsRound (RMn_ag hR hA (by decide)) hW hp hg (nI (k + 1)) q1 q2
      unfold fM_hops_70b
      rw [if_neg (show ¬ (25 : Int32) ≤ nI (k + 1) from nI_ge (b := 25) (by omega) (by omega)), z1]
      exact ⟨_, rfl, nI_1 _, Ag_trans hA z2, F', z3, z4⟩
    · rintro ⟨w, h1⟩ ⟨e, hA, F, q1, q2⟩
      dsimp only at e hA q1 ⊢
      subst e
      unfold fM_hops_70b
      rw [if_pos (by decide)]
      exact ⟨_, rfl, hA, F, q1, q2⟩
  obtain ⟨y, l1, l2, l3⟩ := b
  exact ⟨x, y, m1, l1, l2, l3⟩
theorem M_next {h : rb_H} {B : sBd} (hR : RM h 50 B) (hW : WF B) {p g a k : Nat} (hp : p < bN B) (hg : g < 25) (ha : a < 25) (hk : k ≤ 16) (v3 : Int32) {F : Nat → Nat} (hF : HF h F) (hI : FI (goB B p) (frB B p) g 24 F) (hl : Lv (goB B p) (frB B p) g (k + 1) a = true) : rb_iter rb_fuel (fun z => fM_hops_235b (nI p) (nI g) v3 (nI a) (nI k) z h) (0 : Int32) = some (nI (hpN (goB B p) (Lv (goB B p) (frB B p) g) k a)) := by
  have n1 := (hpN_ok hl).1
  have body : ∀ t, t < 25 → fM_hops_235b (nI p) (nI g) v3 (nI a) (nI k) (nI t) h = if (goB B p a t && Lv (goB B p) (frB B p) g k t) = true then some (.inr (nI t)) else some (.inl (nI (t + 1))) := by
    intro t ht
    have bt := hI.1 t ht
    have ek : nI (F t) = nI k ↔ F t = k := nI_eq (by omega) (by omega)
    have eg : nI t = nI g ↔ t = g := nI_eq (by omega) (by omega)
    unfold fM_hops_235b fM_hops_263l235 fM_hops_279l235
    simp only [if_neg (oob_n ht (by omega)), cl_n (show t < 2 ^ 31 by omega), hF t ht, ek, eg, M_isFree hR hW hp ht, M_canGo hR hW hp ha ht, Option.bind_some, nI_1]
    by_cases c : F t = k
    · rw [if_pos c]
      by_cases c2 : t = g
      · rw [if_pos c2]
        have l := (FI_is hI ht (Or.inl c2) (by omega)).mp c
        rw [l, Bool.and_true]
      · rw [if_neg c2]
        by_cases c3 : frB B p t = true
        · rw [if_pos c3]
          have l := (FI_is hI ht (Or.inr c3) (by omega)).mp c
          rw [l, Bool.and_true]
        · rw [if_neg c3, if_neg]
          intro z
          rw [Bool.and_eq_true] at z
          exact (Lv_G z.2).elim c2 c3
    · rw [if_neg c, if_neg]
      intro z
      rw [Bool.and_eq_true] at z
      exact c ((FI_is hI ht (Lv_G z.2) (by omega)).mpr z.2)
  refine rb_run' (fun t => nI t) (hpN (goB B p) (Lv (goB B p) (frB B p) g) k a) rfl (by omega) (fun t ht => ?_) ?_
  · rw [body t (by omega), if_neg]
    have := fst1_no (p := fun t => goB B p a t && Lv (goB B p) (frB B p) g k t) ht
    rw [this]
    decide
  · rw [body _ n1, if_pos]
    exact fst1_is (p := fun t => goB B p a t && Lv (goB B p) (frB B p) g k t) n1
theorem M_tellHops {h : rb_H} {B : sBd} (hR : RM h 50 B) (hW : WF B) {p g n : Nat} (hp : p < bN B) (hg : g < 25) (hpl : bP B p < 25) (hn : n ≤ 16) {F : Nat → Nat} (hF : HF h F) (hI : FI (goB B p) (frB B p) g 24 F) (hl : Lv (goB B p) (frB B p) g n (bP B p) = true) (hRW : RWm h []) (v3 : Int32) : ∃ x, rb_iter rb_fuel (fun z => fM_hops_227b (nI p) (nI g) v3 z.1 z.2.1 z.2.2) (nI (bP B p), nI n - 1, h) = some x ∧ (RWm x (hpL (goB B p) (Lv (goB B p) (frB B p) g) n (bP B p)) ∧ Ag [1006, 53] h x) := by
  refine rb_runP (fun i s => ∃ a R, a < 25 ∧ Lv (goB B p) (frB B p) g (n - i) a = true ∧ s.1 = nI a ∧ s.2.1 = nI (n - i) - 1 ∧ RWm s.2.2 R ∧ R ++ hpL (goB B p) (Lv (goB B p) (frB B p) g) (n - i) a = hpL (goB B p) (Lv (goB B p) (frB B p) g) n (bP B p) ∧ Ag [1006, 53] h s.2.2) _ n ⟨bP B p, [], hpl, hl, rfl, rfl, hRW, rfl, Ag_refl _ _⟩ (by omega) ?_ ?_
  · rintro i ⟨v, w, h1⟩ hi ⟨a, R, ha, la, e1, e2, hRW, hrest, hA⟩
    dsimp only at e1 e2 hRW hA ⊢
    subst e1
    obtain ⟨m, hm⟩ : ∃ m, n - i = m + 1 := ⟨n - i - 1, by omega⟩
    rw [hm] at la hrest e2
    rw [nI_pred] at e2
    subst e2
    obtain ⟨n1, n2⟩ := hpN_ok la
    have hF1 : HF h1 F := fun s hs => (AgI hA (by decide) s).trans (hF s hs)
    have hlen : R.length + (m + 1) = n := by
      have := congrArg List.length hrest
      rw [List.length_append, hpL_len, hpL_len] at this
      exact this
    obtain ⟨h2, z1, z2, z3⟩ := M_tell hRW (by omega) (nI (hpN (goB B p) (Lv (goB B p) (frB B p) g) m a)).toInt64
    unfold fM_hops_227b
    rw [if_neg (nI_pos (by omega)), M_next (RMn_ag hR hA (by decide)) hW hp hg ha (show m ≤ 16 by omega) v3 hF1 hI la]
    simp only [Option.bind_some, z1]
    refine ⟨_, rfl, hpN (goB B p) (Lv (goB B p) (frB B p) g) m a, _, n1, ?_, rfl, ?_, z2, ?_, Ag_trans hA z3⟩
    · rw [show n - (i + 1) = m by omega]; exact n2
    · rw [show n - (i + 1) = m by omega]
      exact (Int32.sub_eq_add_neg _ _).symm
    · rw [show n - (i + 1) = m by omega, List.append_assoc]
      exact hrest
  · rintro ⟨v, w, h1⟩ ⟨a, R, ha, la, e1, e2, hRW, hrest, hA⟩
    dsimp only at e1 e2 hRW hA ⊢
    rw [Nat.sub_self] at e2 hrest
    subst e2
    unfold fM_hops_227b
    rw [if_pos (by decide)]
    refine ⟨_, rfl, ?_, hA⟩
    rw [← hrest]
    show RWm h1 (R ++ [])
    rw [List.append_nil]
    exact hRW
theorem O_hops (x y : Int32) : rb_op (fB_hops x y) (fM_hops x y) := by
  refine rb_op_of (fun σ hσ => ?_)
  have hW := hσ.1
  have h8 := hW.1
  rcases sq_or x (bN (zB σ)) with ⟨p, hp, rfl⟩ | hx
  · rcases sq_or y 25 with ⟨s, hs, rfl⟩ | hy
    · by_cases ho : bP (zB σ) p = 25
      · refine at_refuse hσ (-2) (fun h hI => ?_) (fun h hI => ?_)
        · unfold fB_hops fB_hops_0
          rw [S_has_y hI.1 hW hp, if_pos rfl, B_isSquare_y hs, if_pos rfl, S_stands_y hI.1 hW hp]
          simp [ho]
        · unfold fM_hops fM_hops_0
          rw [M_isPiece_y hI.1 hW hp, if_pos rfl, M_isSquare_y hs, if_pos rfl, M_isOut hI.1 hW hp]
          simp [ho]
      · have hw := (hW.2.2.1 p hp).2.2.1
        have hpl : bP (zB σ) p < 25 := by omega
        have frS : frB (zB σ) p (bP (zB σ) p) = true := by
          rw [fr_who hW hpl, who_eq hW hp hpl rfl]; simp
        by_cases hl : ∃ n, Lv (goB (zB σ) p) (frB (zB σ) p) s n (bP (zB σ) p) = true
        · obtain ⟨n, hl⟩ := hl
          have hn := hops_16 hW hp hpl hl
          refine at_row hσ (nI n) (hpL (goB (zB σ) p) (Lv (goB (zB σ) p) (frB (zB σ) p) s) n (bP (zB σ) p)) (by rw [hpL_len]; exact hn) (fun h hI => ?_) (fun h0 h e hI => ?_)
          · obtain ⟨h1, a1, a2, a3⟩ := C_open hI.1 hW hp
            obtain ⟨h2, b1, b2, b3⟩ := C_fewest a2 hpl hs hn hl
            have A0 : Ag [3] h2 (rb_sF h2 3 1 0) := Ag_sF (by decide) (Ag_refl _ _)
            have CL2 : CL (rb_sF h2 3 1 0) (zB σ) p s n := ⟨WK_ag b2.1 A0 (by decide), fun j hj => (AgI A0 (by decide) j).trans (b2.2 j hj)⟩
            obtain ⟨h3, c1, c2, c3⟩ := C_tellHops CL2 hpl hn hl (C_row0 h2)
            unfold fB_hops fB_hops_0
            rw [S_has_y hI.1 hW hp, if_pos rfl, B_isSquare_y hs, if_pos rfl, S_stands_y hI.1 hW hp]
            simp only [Option.bind_some, decide_eq_true_eq, if_pos ho, a1, b1, if_pos (nI_pos' (show n < 2 ^ 31 by omega)), c1]
            exact ⟨h3, rfl, c2, Ag_trans (AgS (by decide +kernel) a3) (Ag_trans (AgS (by decide +kernel) b3) (Ag_trans (AgS (by decide +kernel) A0) (AgS (by decide +kernel) c3)))⟩
          · obtain ⟨x, y, m1, m2, m3, F, m4, m5⟩ := M_hopsAll hI.1 hW hp hs
            have R1 := RMn_ag hI.1 m3 (by decide)
            have A0 : Ag [1006] y (rb_sF y 49 6 0) := Ag_sF (by decide) (Ag_refl _ _)
            have q : rb_hI y 50 (8 + p) = nI (bP (zB σ) p) := (R1.2.2.2.2 p hp).2.2.1
            have q' : rb_hI (rb_sF y 49 6 0) 50 (8 + p) = nI (bP (zB σ) p) := q
            have hFn : F (bP (zB σ) p) = n := (FI_is m5 hpl (Or.inr frS) (by omega)).mpr hl
            have hfar : rb_hI y 63 (bP (zB σ) p) = nI n := by rw [m4 _ hpl, hFn]
            obtain ⟨x3, c1, c2, c3⟩ := M_tellHops (RMn_ag R1 A0 (by decide)) hW hp hs hpl hn (fun t ht => (AgI A0 (by decide) t).trans (m4 t ht)) m5 hl (M_row0 y) (nI n)
            unfold fM_hops fM_hops_0
            rw [← e, M_isPiece_y hI.1 hW hp, if_pos rfl, M_isSquare_y hs, if_pos rfl, M_isOut hI.1 hW hp]
            simp only [Option.bind_some, decide_eq_true_eq, if_neg ho, m1, m2, nI8, if_neg (oob_n (show 8 + p < 27 by omega) (by omega)), cl_n (show 8 + p < 2 ^ 31 by omega), q, q', if_neg (oob_n hpl (by omega)), cl_n (show bP (zB σ) p < 2 ^ 31 by omega), hfar, if_pos (show nI n < (1000000 : Int32) from nI_lt (b := 1000000) (by omega) (by omega)), c1]
            exact ⟨x3, rfl, c2, Ag_trans (AgS (by decide +kernel) m3) (Ag_trans (AgS (by decide +kernel) A0) (AgS (by decide +kernel) c3))⟩
        · have hl : ∀ n, Lv (goB (zB σ) p) (frB (zB σ) p) s n (bP (zB σ) p) = false := fun n => by
            cases e : Lv (goB (zB σ) p) (frB (zB σ) p) s n (bP (zB σ) p) with
            | false => rfl
            | true => exact absurd ⟨n, e⟩ hl
          refine at_quiet hσ (-2) (fun h hI => ?_) (fun h0 h e hI => ?_)
          · obtain ⟨h1, a1, a2, a3⟩ := C_open hI.1 hW hp
            obtain ⟨h2, b1, b3⟩ := C_fewest_no a2 hpl hs hl
            unfold fB_hops fB_hops_0
            rw [S_has_y hI.1 hW hp, if_pos rfl, B_isSquare_y hs, if_pos rfl, S_stands_y hI.1 hW hp]
            simp only [Option.bind_some, decide_eq_true_eq, if_pos ho, a1, b1]
            rw [if_neg (by decide)]
            exact ⟨h2, rfl, Ag_trans (AgS (by decide +kernel) a3) (AgS (by decide +kernel) b3)⟩
          · obtain ⟨x, y, m1, m2, m3, F, m4, m5⟩ := M_hopsAll hI.1 hW hp hs
            have R1 := RMn_ag hI.1 m3 (by decide)
            have q : rb_hI y 50 (8 + p) = nI (bP (zB σ) p) := (R1.2.2.2.2 p hp).2.2.1
            have hF : F (bP (zB σ) p) = 1000000 := by
              have a := m5.1 _ hpl
              rcases Nat.lt_or_ge (F (bP (zB σ) p)) 1000000 with z | z
              · obtain ⟨j, j1, j2⟩ := m5.2.1 _ hpl (Or.inr frS) z
                rw [hl] at j2; cases j2
              · omega
            have hfar : rb_hI y 63 (bP (zB σ) p) = 1000000 := by rw [m4 _ hpl, hF]; rfl
            unfold fM_hops fM_hops_0
            rw [← e, M_isPiece_y hI.1 hW hp, if_pos rfl, M_isSquare_y hs, if_pos rfl, M_isOut hI.1 hW hp]
            simp only [Option.bind_some, decide_eq_true_eq, if_neg ho, m1, m2, nI8, if_neg (oob_n (show 8 + p < 27 by omega) (by omega)), cl_n (show 8 + p < 2 ^ 31 by omega), q, if_neg (oob_n hpl (by omega)), cl_n (show bP (zB σ) p < 2 ^ 31 by omega), hfar]
            rw [if_neg (by decide)]
            exact ⟨y, rfl, AgS (by decide +kernel) m3⟩
    · refine at_refuse hσ (-1) (fun h hI => ?_) (fun h hI => ?_)
      · unfold fB_hops fB_hops_0
        rw [S_has_y hI.1 hW hp, if_pos rfl, B_isSquare_n hy, if_neg (by decide)]
      · unfold fM_hops fM_hops_0
        rw [M_isPiece_y hI.1 hW hp, if_pos rfl, M_isSquare_n hy, if_neg (by decide)]
  · refine at_refuse hσ (-1) (fun h hI => ?_) (fun h hI => ?_)
    · unfold fB_hops fB_hops_0
      rw [S_has_n hI.1 hW hx, if_neg (by decide)]
    · unfold fM_hops fM_hops_0
      rw [M_isPiece_n hI.1 hW hx, if_neg (by decide)]
