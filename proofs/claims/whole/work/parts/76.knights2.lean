noncomputable def kP (c r a b : Nat) : Bool := fM_isHop (nI c) (nI r) (nI a) (nI b) && kT a b
theorem kP_is {c r a b : Nat} (hc : c < 20) (hr : r < 20) (ha : a < 20) (hb : b < 20) : kP c r a b = true ↔ ∃ j, j < 4 ∧ kW kT c r j = true ∧ a = kC j c ∧ b = kR j r := by
  unfold kP
  rw [Bool.and_eq_true, kHop hc hr ha hb]
  constructor
  · rintro ⟨⟨j, h1, h2, h3, h4⟩, h5⟩
    refine ⟨j, h1, ?_, h3, h4⟩
    unfold kW
    rw [h2, ← h3, ← h4, h5]; rfl
  · rintro ⟨j, h1, h2, h3, h4⟩
    unfold kW at h2
    rw [Bool.and_eq_true] at h2
    exact ⟨⟨j, h1, h2.1, h3, h4⟩, by rw [h3, h4]; exact h2.2⟩
theorem kP_no {c r a b : Nat} (hc : c < 20) (hr : r < 20) (ha : a < 20) (hb : b < 20) (hg : kG kT c r = 4) : kP c r a b = false := by
  refine Bool.eq_false_iff.mpr (fun z => ?_)
  obtain ⟨j, h1, h2, _⟩ := (kP_is hc hr ha hb).mp z
  rw [kG_no (by rw [hg]; exact h1)] at h2
  cases h2
theorem kP_yes {c r : Nat} (hs : c + r ≤ 18) (hg : kG kT c r < 4) : kP c r (kC (kG kT c r) c) (kR (kG kT c r) r) = true := by
  have y := kG_yes hg
  have on : kOn (kG kT c r) c r = true := by unfold kW at y; rw [Bool.and_eq_true] at y; exact y.1
  have := kOn_sum hg on
  exact (kP_is (by omega) (by omega) (by omega) (by omega)).mpr ⟨_, hg, y, rfl, rfl⟩
theorem kP_min {c r a b : Nat} (hc : c < 20) (hr : r < 20) (ha : a < 20) (hb : b < 20) (hg : kG kT c r < 4) (h : a < kC (kG kT c r) c ∨ (a = kC (kG kT c r) c ∧ b < kR (kG kT c r) r)) : kP c r a b = false := by
  refine Bool.eq_false_iff.mpr (fun z => ?_)
  obtain ⟨j, h1, h2, h3, h4⟩ := (kP_is hc hr ha hb).mp z
  have hj : kG kT c r ≤ j := Nat.le_of_not_lt (fun q => by rw [kG_no q] at h2; cases h2)
  have y := kG_yes hg
  have on : kOn (kG kT c r) c r = true := by unfold kW at y; rw [Bool.and_eq_true] at y; exact y.1
  generalize kG kT c r = g at *
  subst h3; subst h4
  rcases j4 hg with e | e | e | e <;> subst e <;> rcases j4 h1 with e | e | e | e <;> subst e <;> simp [kOn] at on <;> simp only [kC, kR] at h <;> omega
theorem M_knIn {h : rb_H} {c r a : Nat} (hs : c + r ≤ 18) (CK : ∀ a b, a + b < c + r → rb_hI h 89 (20 * a + b) = bI (!kT a b)) (ha : a < 20) : ∀ b, b < 20 → fM_knightTo_11b (nI c) (nI r) (nI a) (nI b) h = if kP c r a b = true then some (.inr (.inl (nI b))) else some (.inl (nI (b + 1))) := by
  intro b hb
  unfold fM_knightTo_11b fM_knightTo_53l11
  rw [if_neg (show ¬ (20 : Int32) ≤ nI b from nI_ge (b := 20) hb (by omega)), nI_1]
  unfold kP
  cases hop : fM_isHop (nI c) (nI r) (nI a) (nI b)
  · rw [if_neg (by decide), if_neg (by rw [Bool.false_and]; decide)]
  · obtain ⟨j, h1, h2, h3, h4⟩ := (kHop (by omega) (by omega) ha hb).mp hop
    have hsum := kOn_sum h1 h2
    rw [← h3, ← h4] at hsum
    rw [if_pos rfl, show (20 : Int32) * nI a = nI (20 * a) from pk_mul 20 _, nI_add, if_neg (oob_n (show 20 * a + b < 400 by omega) (by omega)), cl_n (by omega), CK _ _ hsum]
    cases kT a b
    · rw [if_neg (by decide), if_neg (by decide)]
    · rw [if_pos (by decide), if_pos (by decide)]
theorem M_knightTo {h : rb_H} {c r : Nat} (hs : c + r ≤ 18) (CK : ∀ a b, a + b < c + r → rb_hI h 89 (20 * a + b) = bI (!kT a b)) : fM_knightTo (nI c) (nI r) h = some (if kG kT c r = 4 then -1 else nI (20 * kC (kG kT c r) c + kR (kG kT c r) r)) := by
  have inNo : ∀ a, a < 20 → (∀ b, b < 20 → kP c r a b = false) → rb_iter rb_fuel (fun s => fM_knightTo_11b (nI c) (nI r) (nI a) s h) (0 : Int32) = some (.inr ()) := by
    intro a ha hn
    exact rb_run' (fun k => nI k) 20 rfl (by omega) (fun k hk => by rw [M_knIn hs CK ha k hk, if_neg (by rw [hn k hk]; decide)]) (by
      unfold fM_knightTo_11b
      rw [if_pos (by decide)])
  have stepNo : ∀ a, a < 20 → (∀ b, b < 20 → kP c r a b = false) → fM_knightTo_2b (nI c) (nI r) (nI a) h = some (.inl (nI (a + 1))) := by
    intro a ha hn
    unfold fM_knightTo_2b
    rw [if_neg (show ¬ (20 : Int32) ≤ nI a from nI_ge (b := 20) ha (by omega)), inNo a ha hn, ← nI_1]
    rfl
  unfold fM_knightTo fM_knightTo_0
  by_cases h4 : kG kT c r = 4
  · rw [if_pos h4]
    have run : rb_iter rb_fuel (fun s => fM_knightTo_2b (nI c) (nI r) s h) (0 : Int32) = some (.inr ()) := rb_run' (fun k => nI k) 20 rfl (by omega) (fun k hk => stepNo k hk (fun b hb => kP_no (by omega) (by omega) hk hb h4)) (by
      unfold fM_knightTo_2b
      rw [if_pos (by decide)])
    rw [run]; rfl
  · rw [if_neg h4]
    have hlt : kG kT c r < 4 := by have := kG_le (L := kT) (c := c) (r := r); omega
    have y := kG_yes hlt
    have on : kOn (kG kT c r) c r = true := by unfold kW at y; rw [Bool.and_eq_true] at y; exact y.1
    have hsum := kOn_sum hlt on
    have ha : kC (kG kT c r) c < 20 := by omega
    have hb : kR (kG kT c r) r < 20 := by omega
    have inYes : rb_iter rb_fuel (fun s => fM_knightTo_11b (nI c) (nI r) (nI (kC (kG kT c r) c)) s h) (0 : Int32) = some (.inl (nI (kR (kG kT c r) r))) := 
      rb_run' (fun k => nI k) (kR (kG kT c r) r) rfl (by omega) (fun k hk => by rw [M_knIn hs CK ha k (by omega), if_neg (by rw [kP_min (by omega) (by omega) ha (by omega) hlt (Or.inr ⟨rfl, hk⟩)]; decide)]) (by
        rw [M_knIn hs CK ha _ hb, if_pos (kP_yes hs hlt)])
    have run : rb_iter rb_fuel (fun s => fM_knightTo_2b (nI c) (nI r) s h) (0 : Int32) = some (.inl (nI (kC (kG kT c r) c), nI (kR (kG kT c r) r))) := rb_run' (fun k => nI k) (kC (kG kT c r) c) rfl (by omega) (fun k hk => stepNo k (by omega) (fun b hb => kP_min (by omega) (by omega) (by omega) hb hlt (Or.inl hk))) (by
      unfold fM_knightTo_2b
      rw [if_neg (show ¬ (20 : Int32) ≤ nI (kC (kG kT c r) c) from nI_ge (b := 20) ha (by omega)), inYes]
      rfl)
    rw [run]
    show some ((20 : Int32) * nI (kC (kG kT c r) c) + nI (kR (kG kT c r) r)) = _
    rw [show (20 : Int32) * nI (kC (kG kT c r) c) = nI (20 * kC (kG kT c r) c) from pk_mul 20 _, nI_add]
theorem kn_dif {m d a : Nat} (h : a ≤ d) : nI (m * a) + nI d - nI a = nI (m * a + (d - a)) := by
  rw [nI_add, nI_sub (by omega), show m * a + d - a = m * a + (d - a) by omega]
theorem C_knFill {h : rb_H} {d : Nat} (hd : d ≤ 18) {v1 v2 : Int32} (CK : ∀ a b, a + b < d → rb_hI h 48 (19 * a + b) = bI (kT a b)) : ∃ x, rb_iter rb_fuel (fun s => fB_knights_34b v1 v2 (nI d) s.1 s.2) ((0 : Int32), h) = some x ∧ ((∀ a b, a + b < d + 1 → rb_hI x 48 (19 * a + b) = bI (kT a b)) ∧ Ag [48] h x) := by
  refine rb_runP (fun k s => s.1 = nI k ∧ (∀ a b, a + b < d ∨ (a + b = d ∧ a < k) → rb_hI s.2 48 (19 * a + b) = bI (kT a b)) ∧ Ag [48] h s.2) _ (d + 1) ⟨rfl, fun a b z => CK a b (by rcases z with z | z; exact z; omega), Ag_refl _ _⟩ (by omega) ?_ ?_
  · rintro k ⟨y, h1⟩ hk ⟨e1, e2, hA⟩
    dsimp only at e1 e2 hA ⊢
    subst e1
    unfold fB_knights_34b fB_knights_72l34
    have wl := C_winningLeap (h := h1) (c := k) (r := d - k) (by omega) (fun a b z => e2 a b (Or.inl (by omega)))
    rw [if_neg (show ¬ nI d < nI k from nI_nlt (by omega) (by omega)), nI_sub (show k ≤ d by omega), wl]
    simp only [Option.bind_some, show (19 : Int32) * nI k = nI (19 * k) from pk_mul 19 _, kn_dif (m := 19) (show k ≤ d by omega), if_neg (oob_n (show 19 * k + (d - k) < 361 by omega) (by omega)), cl_n (show 19 * k + (d - k) < 2 ^ 31 by omega), nI_1]
    have fin : ∀ v : Int32, v = bI (kT k (d - k)) → ∃ s', some (Sum.inl (nI (k + 1), rb_sI h1 48 (19 * k + (d - k)) v)) = some (Sum.inl s' : (Int32 × rb_H) ⊕ rb_H) ∧ s'.1 = nI (k + 1) ∧ (∀ a b, a + b < d ∨ (a + b = d ∧ a < k + 1) → rb_hI s'.2 48 (19 * a + b) = bI (kT a b)) ∧ Ag [48] h s'.2 := by
      intro v hv
      refine ⟨_, rfl, rfl, fun a b z => ?_, Ag_sI (by simp) hA⟩
      show rb_hI (rb_sI h1 48 (19 * k + (d - k)) v) 48 (19 * a + b) = _
      rw [hI_sI]
      by_cases e : 19 * a + b = 19 * k + (d - k)
      · have e1 : a = k := by omega
        have e2 : b = d - k := by omega
        rw [if_pos ⟨rfl, e⟩, hv, e1, e2]
      · rw [if_neg (fun z => e z.2)]
        refine e2 a b ?_
        rcases z with z | ⟨z1, z2⟩
        · exact Or.inl z
        · by_cases f : a = k
          · exact absurd (by rw [f, show b = d - k by omega]) e
          · exact Or.inr ⟨z1, by omega⟩
    by_cases h4 : kG kT k (d - k) = 4
    · rw [if_pos h4, if_neg (by decide)]
      exact fin _ (by rw [kT_is, h4]; decide)
    · rw [if_neg h4, if_pos (nI_pos' (by have := kG_le (L := kT) (c := k) (r := d - k); omega))]
      exact fin _ (by rw [kT_is, decide_eq_false h4]; decide)
  · rintro ⟨y, h1⟩ ⟨e1, e2, hA⟩
    dsimp only at e1 e2 hA ⊢
    subst e1
    unfold fB_knights_34b
    rw [if_pos (nI_lt (by omega) (by omega))]
    exact ⟨_, rfl, fun a b z => e2 a b (by omega), hA⟩
theorem M_knFill {h : rb_H} {d : Nat} (hd : d ≤ 18) {v1 v2 : Int32} (CK : ∀ a b, a + b < d → rb_hI h 89 (20 * a + b) = bI (!kT a b)) : ∃ x, rb_iter rb_fuel (fun s => fM_knights_39b v1 v2 (nI d) s.1 s.2) ((0 : Int32), h) = some x ∧ ((∀ a b, a + b < d + 1 → rb_hI x 89 (20 * a + b) = bI (!kT a b)) ∧ Ag [89] h x) := by
  refine rb_runP (fun k s => s.1 = nI k ∧ (∀ a b, a + b < d ∨ (a + b = d ∧ a < k) → rb_hI s.2 89 (20 * a + b) = bI (!kT a b)) ∧ Ag [89] h s.2) _ (d + 1) ⟨rfl, fun a b z => CK a b (by rcases z with z | z; exact z; omega), Ag_refl _ _⟩ (by omega) ?_ ?_
  · rintro k ⟨y, h1⟩ hk ⟨e1, e2, hA⟩
    dsimp only at e1 e2 hA ⊢
    subst e1
    unfold fM_knights_39b fM_knights_78l39
    have wl := M_knightTo (h := h1) (c := k) (r := d - k) (by omega) (fun a b z => e2 a b (Or.inl (by omega)))
    rw [if_neg (show ¬ nI d < nI k from nI_nlt (by omega) (by omega)), nI_sub (show k ≤ d by omega), wl]
    simp only [Option.bind_some, show (20 : Int32) * nI k = nI (20 * k) from pk_mul 20 _, kn_dif (m := 20) (show k ≤ d by omega), if_neg (oob_n (show 20 * k + (d - k) < 400 by omega) (by omega)), cl_n (show 20 * k + (d - k) < 2 ^ 31 by omega), nI_1]
    have fin : ∀ v : Int32, v = bI (!kT k (d - k)) → ∃ s', some (Sum.inl (nI (k + 1), rb_sI h1 89 (20 * k + (d - k)) v)) = some (Sum.inl s' : (Int32 × rb_H) ⊕ rb_H) ∧ s'.1 = nI (k + 1) ∧ (∀ a b, a + b < d ∨ (a + b = d ∧ a < k + 1) → rb_hI s'.2 89 (20 * a + b) = bI (!kT a b)) ∧ Ag [89] h s'.2 := by
      intro v hv
      refine ⟨_, rfl, rfl, fun a b z => ?_, Ag_sI (by simp) hA⟩
      show rb_hI (rb_sI h1 89 (20 * k + (d - k)) v) 89 (20 * a + b) = _
      rw [hI_sI]
      by_cases e : 20 * a + b = 20 * k + (d - k)
      · have e1 : a = k := by omega
        have e2 : b = d - k := by omega
        rw [if_pos ⟨rfl, e⟩, hv, e1, e2]
      · rw [if_neg (fun z => e z.2)]
        refine e2 a b ?_
        rcases z with z | ⟨z1, z2⟩
        · exact Or.inl z
        · by_cases f : a = k
          · exact absurd (by rw [f, show b = d - k by omega]) e
          · exact Or.inr ⟨z1, by omega⟩
    by_cases h4 : kG kT k (d - k) = 4
    · rw [if_pos h4, if_pos (by decide)]
      exact fin _ (by rw [kT_is, h4]; decide)
    · have hb : nI (20 * kC (kG kT k (d - k)) k + kR (kG kT k (d - k)) (d - k)) ≠ (-1 : Int32) := by
        have hlt : kG kT k (d - k) < 4 := by have := kG_le (L := kT) (c := k) (r := d - k); omega
        have y := kG_yes hlt
        have on : kOn (kG kT k (d - k)) k (d - k) = true := by unfold kW at y; rw [Bool.and_eq_true] at y; exact y.1
        have hsum := kOn_sum hlt on
        exact fun z => nI_pos (show 20 * kC (kG kT k (d - k)) k + kR (kG kT k (d - k)) (d - k) < 2 ^ 31 by omega) (by rw [z]; decide)
      rw [if_neg h4, if_neg hb]
      exact fin _ (by rw [kT_is, decide_eq_false h4]; decide)
  · rintro ⟨y, h1⟩ ⟨e1, e2, hA⟩
    dsimp only at e1 e2 hA ⊢
    subst e1
    unfold fM_knights_39b
    rw [if_pos (nI_lt (by omega) (by omega))]
    exact ⟨_, rfl, fun a b z => e2 a b (by omega), hA⟩
theorem C_knAll {h : rb_H} {x y : Nat} (hx : x ≤ 9) (hy : y ≤ 9) : ∃ z, rb_iter rb_fuel (fun s => fB_knights_24b (nI x) (nI y) s.1 s.2) ((0 : Int32), h) = some z ∧ ((∀ a b, a + b < x + y → rb_hI z 48 (19 * a + b) = bI (kT a b)) ∧ Ag [48] h z) := by
  refine rb_runP (fun k s => s.1 = nI k ∧ (∀ a b, a + b < k → rb_hI s.2 48 (19 * a + b) = bI (kT a b)) ∧ Ag [48] h s.2) _ (x + y) ⟨rfl, fun a b z => absurd z (Nat.not_lt_zero _), Ag_refl _ _⟩ (by omega) ?_ ?_
  · rintro k ⟨z, h1⟩ hk ⟨e1, e2, hA⟩
    dsimp only at e1 e2 hA ⊢
    subst e1
    obtain ⟨w, w1, w2, w3⟩ := C_knFill (h := h1) (d := k) (by omega) (v1 := nI x) (v2 := nI y) e2
    unfold fB_knights_24b
    rw [nI_add, if_neg (show ¬ nI (x + y) ≤ nI k from nI_ge hk (by omega)), w1]
    simp only [Option.bind_some, nI_1]
    exact ⟨_, rfl, rfl, w2, Ag_trans hA w3⟩
  · rintro ⟨z, h1⟩ ⟨e1, e2, hA⟩
    dsimp only at e1 e2 hA ⊢
    subst e1
    unfold fB_knights_24b
    rw [nI_add, if_pos (nI_le (Nat.le_refl _) (by omega))]
    exact ⟨_, rfl, e2, hA⟩
theorem M_knAll {h : rb_H} {x y : Nat} (hx : x ≤ 9) (hy : y ≤ 9) : ∃ z, rb_iter rb_fuel (fun s => fM_knights_29b (nI x) (nI y) s.1 s.2) ((0 : Int32), h) = some z ∧ ((∀ a b, a + b < x + y → rb_hI z 89 (20 * a + b) = bI (!kT a b)) ∧ Ag [89] h z) := by
  refine rb_runP (fun k s => s.1 = nI k ∧ (∀ a b, a + b < k → rb_hI s.2 89 (20 * a + b) = bI (!kT a b)) ∧ Ag [89] h s.2) _ (x + y + 1) ⟨rfl, fun a b z => absurd z (Nat.not_lt_zero _), Ag_refl _ _⟩ (by omega) ?_ ?_
  · rintro k ⟨z, h1⟩ hk ⟨e1, e2, hA⟩
    dsimp only at e1 e2 hA ⊢
    subst e1
    obtain ⟨w, w1, w2, w3⟩ := M_knFill (h := h1) (d := k) (by omega) (v1 := nI x) (v2 := nI y) e2
    unfold fM_knights_29b
    rw [nI_add, if_neg (show ¬ nI (x + y) < nI k from nI_nlt (by omega) (by omega)), w1]
    simp only [Option.bind_some, nI_1]
    exact ⟨_, rfl, rfl, w2, Ag_trans hA w3⟩
  · rintro ⟨z, h1⟩ ⟨e1, e2, hA⟩
    dsimp only at e1 e2 hA ⊢
    subst e1
    unfold fM_knights_29b
    rw [nI_add, if_pos (nI_lt (by omega) (by omega))]
    exact ⟨_, rfl, fun a b z => e2 a b (by omega), hA⟩
theorem O_knights (x y : Int32) : rb_op (fB_knights x y) (fM_knights x y) := by
  refine rb_op_of (fun σ hσ => ?_)
  rcases rg_or (n := 9) x (by omega) with ⟨c, hc, rfl⟩ | hx
  · rcases rg_or (n := 9) y (by omega) with ⟨r, hr, rfl⟩ | hy
    · have c1 : ¬ nI c < 0 := nI_nlt (b := 0) (by omega) (by omega)
      have c2 : ¬ (9 : Int32) < nI c := nI_nlt (a := 9) (by omega) (by omega)
      have r1 : ¬ nI r < 0 := nI_nlt (b := 0) (by omega) (by omega)
      have r2 : nI r ≤ (9 : Int32) := nI_le (b := 9) hr (by omega)
      by_cases h4 : kG kT c r = 4
      · refine at_row hσ 0 [] (by decide) (fun h hI => ?_) (fun h0 h e hI => ?_)
        · obtain ⟨z, z1, z2, z3⟩ := C_knAll (h := h) hc hr
          unfold fB_knights fB_knights_0
          rw [if_neg c1, if_neg c2, if_neg r1, if_pos r2, z1]
          simp only [Option.bind_some, C_winningLeap (show c + r ≤ 18 by omega) z2, if_pos h4]
          rw [if_neg (by decide)]
          exact ⟨_, rfl, C_row0 z, Ag_trans (AgS (by decide +kernel) z3) (Ag_sF (by decide) (Ag_refl _ _))⟩
        · obtain ⟨z, z1, z2, z3⟩ := M_knAll (h := h) hc hr
          unfold fM_knights fM_knights_0
          rw [← e, M_in_y (n := 9) (M := 9) hc (by omega) rfl, if_pos rfl, M_in_y (n := 9) (M := 9) hr (by omega) rfl, if_pos rfl, z1]
          simp only [Option.bind_some, M_knightTo (show c + r ≤ 18 by omega) z2, if_pos h4]
          rw [if_pos trivial]
          exact ⟨_, rfl, M_row0 z, Ag_trans (AgS (by decide +kernel) z3) (Ag_sF (by decide) (Ag_refl _ _))⟩
      · have hlt : kG kT c r < 4 := by have := kG_le (L := kT) (c := c) (r := r); omega
        have yy := kG_yes hlt
        have on : kOn (kG kT c r) c r = true := by unfold kW at yy; rw [Bool.and_eq_true] at yy; exact yy.1
        have hsum := kOn_sum hlt on
        obtain ⟨q1, q2⟩ := kn_y _ hlt c (by omega) r (by omega) on
        refine at_row hσ 1 [(nI (kC (kG kT c r) c)).toInt64, (nI (kR (kG kT c r) r)).toInt64] (by simp) (fun h hI => ?_) (fun h0 h e hI => ?_)
        · obtain ⟨z, z1, z2, z3⟩ := C_knAll (h := h) hc hr
          obtain ⟨w, w1, w2, w3⟩ := C_tell1 (nI (kC (kG kT c r) c)).toInt64 (nI (kR (kG kT c r) r)).toInt64 z
          unfold fB_knights fB_knights_0
          rw [if_neg c1, if_neg c2, if_neg r1, if_pos r2, z1]
          simp only [Option.bind_some, C_winningLeap (show c + r ≤ 18 by omega) z2, if_neg h4, if_pos (nI_pos' (show kG kT c r < 2 ^ 31 by omega)), if_neg (oob_n hlt (show kG kT c r < 2 ^ 31 by omega)), cl_n (show kG kT c r < 2 ^ 31 by omega), q1, q2, w1]
          exact ⟨_, rfl, w2, Ag_trans (AgS (by decide +kernel) z3) (AgS (by decide +kernel) w3)⟩
        · obtain ⟨z, z1, z2, z3⟩ := M_knAll (h := h) hc hr
          have d1 : nI (20 * kC (kG kT c r) c + kR (kG kT c r) r) / 20 = nI (kC (kG kT c r) c) := by rw [show nI (20 * kC (kG kT c r) c + kR (kG kT c r) r) / (20 : Int32) = nI ((20 * kC (kG kT c r) c + kR (kG kT c r) r) / 20) from pk_div (d := 20) (by omega) (by omega) (by omega), show (20 * kC (kG kT c r) c + kR (kG kT c r) r) / 20 = kC (kG kT c r) c by omega]
          have d2 : rb_rem (nI (20 * kC (kG kT c r) c + kR (kG kT c r) r)) 20 = nI (kR (kG kT c r) r) := by rw [show rb_rem (nI (20 * kC (kG kT c r) c + kR (kG kT c r) r)) 20 = nI ((20 * kC (kG kT c r) c + kR (kG kT c r) r) % 20) from pk_rem (d := 20) (by omega) (by omega) (by omega), show (20 * kC (kG kT c r) c + kR (kG kT c r) r) % 20 = kR (kG kT c r) r by omega]
          have nm : ¬ nI (20 * kC (kG kT c r) c + kR (kG kT c r) r) = (-1 : Int32) := fun q => nI_pos (show 20 * kC (kG kT c r) c + kR (kG kT c r) r < 2 ^ 31 by omega) (by rw [q]; decide)
          obtain ⟨t, a1, a2, a3⟩ := M_tell (M_row0 z) (by decide) (nI (kC (kG kT c r) c)).toInt64
          obtain ⟨w, b1, b2, b3⟩ := M_tell a2 (by simp) (nI (kR (kG kT c r) r)).toInt64
          unfold fM_knights fM_knights_0
          rw [← e, M_in_y (n := 9) (M := 9) hc (by omega) rfl, if_pos rfl, M_in_y (n := 9) (M := 9) hr (by omega) rfl, if_pos rfl, z1]
          simp only [Option.bind_some, M_knightTo (show c + r ≤ 18 by omega) z2, if_neg h4, if_neg nm, d1, d2, a1, b1]
          exact ⟨_, rfl, b2, Ag_trans (AgS (by decide +kernel) z3) (Ag_trans (Ag_sF (by decide) (Ag_refl _ _)) (Ag_trans (AgS (by decide +kernel) a3) (AgS (by decide +kernel) b3)))⟩
    · refine at_refuse hσ (-1) (fun h hI => ?_) (fun h hI => ?_)
      · unfold fB_knights fB_knights_0
        rw [if_neg (show ¬ nI c < 0 from nI_nlt (b := 0) (by omega) (by omega)), if_neg (show ¬ (9 : Int32) < nI c from nI_nlt (a := 9) (by omega) (by omega))]
        rcases hy with hy | ⟨h1, h2⟩
        · rw [if_pos hy]
        · rw [if_neg h1, if_neg (show ¬ y ≤ (9 : Int32) from Int32.not_le.mpr h2)]
      · unfold fM_knights fM_knights_0
        rw [M_in_y (n := 9) (M := 9) hc (by omega) rfl, if_pos rfl, M_in_no (M := 9) hy, if_neg (by decide)]
  · refine at_refuse hσ (-1) (fun h hI => ?_) (fun h hI => ?_)
    · unfold fB_knights fB_knights_0
      rcases hx with hx | ⟨h1, h2⟩
      · rw [if_pos hx]
      · rw [if_neg h1, if_pos (show (9 : Int32) < x from h2)]
    · unfold fM_knights fM_knights_0
      rw [M_in_no (M := 9) hx, if_neg (by decide)]
