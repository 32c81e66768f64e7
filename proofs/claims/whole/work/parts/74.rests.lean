/-! rents at rest -/
noncomputable def rsB (p : Int32) (a b : Nat) : Bool := (List.range 10).all fun k => decide (fB_income p (nI k) (nI b) ≤ fB_income p (nI a) (nI b))
theorem rs_all {p : Int32} {a b : Nat} : rsB p a b = true ↔ ∀ k, k < 10 → fB_income p (nI k) (nI b) ≤ fB_income p (nI a) (nI b) := by
  unfold rsB
  simp only [List.all_eq_true, List.mem_range, decide_eq_true_eq]
theorem max_c (a b : Int32) : rb_max a b = rb_max b a := by
  unfold rb_max
  by_cases h : a < b
  · rw [if_pos h, if_neg (fun g => Int32.lt_irrefl (Int32.lt_trans h g))]
  · by_cases g : b < a
    · rw [if_neg h, if_pos g]
    · rw [if_neg h, if_neg g]
      exact Int32.le_antisymm (Int32.not_lt.mp g) (Int32.not_lt.mp h)
theorem gets_in (v m o : Int32) : fM_gets m o v = fB_income v m o := by
  unfold fM_gets fM_gets_0 fB_income fB_income_0 fM_gets_34 fB_income_33
  rw [max_c 0 (v - 2 * m), Int32.mul_comm m, Int32.mul_comm m, Int32.mul_comm m]
theorem C_isContent {p : Int32} {a b : Nat} : fB_isContent p (nI a) (nI b) = some (rsB p a b) := by
  have body : ∀ k, k < 10 → fB_isContent_10b p (nI b) (fB_income p (nI a) (nI b)) (nI k) = if fB_income p (nI k) (nI b) ≤ fB_income p (nI a) (nI b) then some (.inl (nI (k + 1))) else some (.inr (.inl ())) := by
    intro k hk
    unfold fB_isContent_10b
    simp only [if_neg (show ¬ (10 : Int32) ≤ nI k from nI_ge (b := 10) hk (by omega)), rb_lt, nI_1]
  unfold fB_isContent fB_isContent_0
  simp only [rb_lt]
  cases hb : rsB p a b
  · have : ∃ j, j < 10 ∧ ¬ fB_income p (nI j) (nI b) ≤ fB_income p (nI a) (nI b) := by
      refine Classical.byContradiction fun z => ?_
      have : rsB p a b = true := rs_all.mpr (fun j hj => Classical.byContradiction fun q => z ⟨j, hj, q⟩)
      rw [hb] at this; cases this
    obtain ⟨j, j1, j2, j3⟩ := fb_first this
    have run : rb_iter rb_fuel (fun s => fB_isContent_10b p (nI b) (fB_income p (nI a) (nI b)) s) (0 : Int32) = some (.inl ()) := rb_run' (fun k => nI k) j rfl (by omega) (fun k hk => by rw [body k (by omega), if_pos (Classical.not_not.mp (j3 k hk))]) (by rw [body j j1, if_neg j2])
    rw [run]
    rfl
  · have run : rb_iter rb_fuel (fun s => fB_isContent_10b p (nI b) (fB_income p (nI a) (nI b)) s) (0 : Int32) = some (.inr ()) := rb_run' (fun k => nI k) 10 rfl (by omega) (fun k hk => by rw [body k hk, if_pos (rs_all.mp hb k hk)]) (by
      unfold fB_isContent_10b
      rw [if_pos (by decide)])
    rw [run]
    rfl
theorem M_isBest {p : Int32} {a b : Nat} : fM_isBest (nI a) (nI b) p = some (rsB p a b) := by
  have body : ∀ k, k < 10 → fM_isBest_2b (nI a) (nI b) p (nI k) = if fB_income p (nI k) (nI b) ≤ fB_income p (nI a) (nI b) then some (.inl (nI (k + 1))) else some (.inr (.inl ())) := by
    intro k hk
    unfold fM_isBest_2b
    simp only [if_neg (show ¬ (9 : Int32) < nI k from nI_nlt (a := 9) (by omega) (by omega)), rb_lt, nI_1, gets_in]
  unfold fM_isBest fM_isBest_0
  cases hb : rsB p a b
  · have : ∃ j, j < 10 ∧ ¬ fB_income p (nI j) (nI b) ≤ fB_income p (nI a) (nI b) := by
      refine Classical.byContradiction fun z => ?_
      have : rsB p a b = true := rs_all.mpr (fun j hj => Classical.byContradiction fun q => z ⟨j, hj, q⟩)
      rw [hb] at this; cases this
    obtain ⟨j, j1, j2, j3⟩ := fb_first this
    have run : rb_iter rb_fuel (fun s => fM_isBest_2b (nI a) (nI b) p s) (0 : Int32) = some (.inl ()) := rb_run' (fun k => nI k) j rfl (by omega) (fun k hk => by rw [body k (by omega), if_pos (Classical.not_not.mp (j3 k hk))]) (by rw [body j j1, if_neg j2])
    rw [run]
    rfl
  · have run : rb_iter rb_fuel (fun s => fM_isBest_2b (nI a) (nI b) p s) (0 : Int32) = some (.inr ()) := rb_run' (fun k => nI k) 10 rfl (by omega) (fun k hk => by rw [body k hk, if_pos (rs_all.mp hb k hk)]) (by
      unfold fM_isBest_2b
      rw [if_pos (by decide)])
    rw [run]
    rfl
noncomputable def rrB (p : Int32) (q : Nat) : Bool := rsB p (q / 10) (q % 10) && rsB p (q % 10) (q / 10)
theorem rrB_at {p : Int32} {a b : Nat} (hb : b < 10) : rrB p (10 * a + b) = (rsB p a b && rsB p b a) := by
  unfold rrB
  rw [show (10 * a + b) / 10 = a by omega, show (10 * a + b) % 10 = b by omega]
theorem rkL_at {w : Nat → Bool} {a b : Nat} (hb : b < 10) : rkL w 10 (10 * a + b + 1) = if w (10 * a + b) = true ∧ fb_ct w (10 * a + b) = 0 then [(nI a).toInt64, (nI b).toInt64] else rkL w 10 (10 * a + b) := by
  show (if _ then _ else _) = _
  rw [show (10 * a + b) / 10 = a by omega, show (10 * a + b) % 10 = b by omega]
theorem C_restIn {p : Int32} {a : Nat} (ha : a < 10) {h : rb_H} (e3 : RWc h (rkL (rrB p) 10 (10 * a))) : ∃ x, rb_iter rb_fuel (fun s => fB_rests_33b p s.1 (nI a) s.2.1 s.2.2) (nI (fb_ct (rrB p) (10 * a)), (0 : Int32), h) = some x ∧ (x.1 = nI (fb_ct (rrB p) (10 * a + 10)) ∧ RWc x.2 (rkL (rrB p) 10 (10 * a + 10)) ∧ Ag [3, 4] h x.2) := by
  refine rb_runP (fun k s => s.1 = nI (fb_ct (rrB p) (10 * a + k)) ∧ s.2.1 = nI k ∧ RWc s.2.2 (rkL (rrB p) 10 (10 * a + k)) ∧ Ag [3, 4] h s.2.2) _ 10 ⟨rfl, rfl, e3, Ag_refl _ _⟩ (by omega) ?_ ?_
  · rintro k ⟨y, z, h1⟩ hk ⟨e1, e2, e3, hA⟩
    dsimp only at e1 e2 e3 hA ⊢
    subst e1
    subst e2
    have hc := fb_ct_le (rrB p) (10 * a + k)
    have e1 : nI (fb_ct (rrB p) (10 * a + k) + 1) = (1 : Int32) ↔ fb_ct (rrB p) (10 * a + k) = 0 := by
      have : nI (fb_ct (rrB p) (10 * a + k) + 1) = nI 1 ↔ fb_ct (rrB p) (10 * a + k) + 1 = 1 := nI_eq (by omega) (by omega)
      rw [show (1 : Int32) = nI 1 from rfl, this]
      omega
    have hat := rrB_at (p := p) (a := a) hk
    have rat := rkL_at (w := rrB p) (a := a) hk
    unfold fB_rests_33b fB_rests_77l33
    rw [if_neg (show ¬ (10 : Int32) ≤ nI k from nI_ge (b := 10) hk (by omega)), C_isContent, C_isContent]
    simp only [Option.bind_some, nI_1, e1]
    have no : (rsB p a k && rsB p k a) = false → ∃ s', some (Sum.inl (nI (fb_ct (rrB p) (10 * a + k)), nI (k + 1), h1)) = some (Sum.inl s' : (Int32 × Int32 × rb_H) ⊕ (Int32 × rb_H)) ∧ s'.1 = nI (fb_ct (rrB p) (10 * a + (k + 1))) ∧ s'.2.1 = nI (k + 1) ∧ RWc s'.2.2 (rkL (rrB p) 10 (10 * a + (k + 1))) ∧ Ag [3, 4] h s'.2.2 := by
      intro z
      rw [z] at hat
      refine ⟨_, rfl, ?_, rfl, ?_, hA⟩
      · show _ = nI (fb_ct (rrB p) (10 * a + k + 1))
        rw [fb_ct_succ, hat]; rfl
      · show RWc _ (rkL (rrB p) 10 (10 * a + k + 1))
        rw [rat, if_neg (fun z => by rw [hat] at z; exact absurd z.1 (by decide))]; exact e3
    cases hb : rsB p a k
    · rw [if_neg (by decide)]
      exact no (by rw [hb]; rfl)
    · rw [if_pos rfl]
      cases hd : rsB p k a
      · rw [if_neg (by decide)]
        exact no (by rw [hd, Bool.and_false])
      · rw [hb, hd] at hat
        rw [if_pos rfl]
        have ct : fb_ct (rrB p) (10 * a + (k + 1)) = fb_ct (rrB p) (10 * a + k) + 1 := by
          show fb_ct (rrB p) (10 * a + k + 1) = _
          rw [fb_ct_succ, hat]; rfl
        by_cases c : fb_ct (rrB p) (10 * a + k) = 0
        · obtain ⟨h2, a1, a2, a3⟩ := C_tell1 (nI a).toInt64 (nI k).toInt64 h1
          rw [if_pos c, a1]
          refine ⟨_, rfl, by rw [ct], rfl, ?_, Ag_trans hA a3⟩
          show RWc _ (rkL (rrB p) 10 (10 * a + k + 1))
          rw [rat, if_pos ⟨hat, c⟩]; exact a2
        · rw [if_neg c]
          refine ⟨_, rfl, by rw [ct], rfl, ?_, hA⟩
          show RWc _ (rkL (rrB p) 10 (10 * a + k + 1))
          rw [rat, if_neg (fun z => c z.2)]; exact e3
  · rintro ⟨y, z, h1⟩ ⟨e1, e2, e3, hA⟩
    dsimp only at e1 e2 e3 hA ⊢
    subst e2
    unfold fB_rests_33b
    rw [if_pos (by decide)]
    exact ⟨_, rfl, e1, e3, hA⟩
theorem M_restIn {p : Int32} {a : Nat} (ha : a < 10) {h : rb_H} (e3 : RWm h (rkL (rrB p) 10 (10 * a))) : ∃ x, rb_iter rb_fuel (fun s => fM_rests_35b p s.1 (nI a) s.2.1 s.2.2) (nI (fb_ct (rrB p) (10 * a)), (0 : Int32), h) = some x ∧ (x.1 = nI (fb_ct (rrB p) (10 * a + 10)) ∧ RWm x.2 (rkL (rrB p) 10 (10 * a + 10)) ∧ Ag [1006, 53] h x.2) := by
  refine rb_runP (fun k s => s.1 = nI (fb_ct (rrB p) (10 * a + k)) ∧ s.2.1 = nI k ∧ RWm s.2.2 (rkL (rrB p) 10 (10 * a + k)) ∧ Ag [1006, 53] h s.2.2) _ 10 ⟨rfl, rfl, e3, Ag_refl _ _⟩ (by omega) ?_ ?_
  · rintro k ⟨y, z, h1⟩ hk ⟨e1, e2, e3, hA⟩
    dsimp only at e1 e2 e3 hA ⊢
    subst e1
    subst e2
    have hc := fb_ct_le (rrB p) (10 * a + k)
    have e1 : nI (fb_ct (rrB p) (10 * a + k)) = (0 : Int32) ↔ fb_ct (rrB p) (10 * a + k) = 0 := nI_eq (b := 0) (by omega) (by omega)
    have hat := rrB_at (p := p) (a := a) hk
    have rat := rkL_at (w := rrB p) (a := a) hk
    unfold fM_rests_35b fM_rests_82l35 fM_rests_85l35
    rw [if_neg (show ¬ (9 : Int32) < nI k from nI_nlt (a := 9) (by omega) (by omega)), M_isBest, M_isBest]
    simp only [Option.bind_some, nI_1, e1]
    have no : (rsB p a k && rsB p k a) = false → ∃ s', some (Sum.inl (nI (fb_ct (rrB p) (10 * a + k)), nI (k + 1), h1)) = some (Sum.inl s' : (Int32 × Int32 × rb_H) ⊕ (Int32 × rb_H)) ∧ s'.1 = nI (fb_ct (rrB p) (10 * a + (k + 1))) ∧ s'.2.1 = nI (k + 1) ∧ RWm s'.2.2 (rkL (rrB p) 10 (10 * a + (k + 1))) ∧ Ag [1006, 53] h s'.2.2 := by
      intro z
      rw [z] at hat
      refine ⟨_, rfl, ?_, rfl, ?_, hA⟩
      · show _ = nI (fb_ct (rrB p) (10 * a + k + 1))
        rw [fb_ct_succ, hat]; rfl
      · show RWm _ (rkL (rrB p) 10 (10 * a + k + 1))
        rw [rat, if_neg (fun z => by rw [hat] at z; exact absurd z.1 (by decide))]; exact e3
    cases hb : rsB p a k
    · rw [if_neg (by decide)]
      exact no (by rw [hb]; rfl)
    · rw [if_pos rfl]
      cases hd : rsB p k a
      · rw [if_neg (by decide)]
        exact no (by rw [hd, Bool.and_false])
      · rw [hb, hd] at hat
        rw [if_pos rfl]
        have ct : fb_ct (rrB p) (10 * a + (k + 1)) = fb_ct (rrB p) (10 * a + k) + 1 := by
          show fb_ct (rrB p) (10 * a + k + 1) = _
          rw [fb_ct_succ, hat]; rfl
        by_cases c : fb_ct (rrB p) (10 * a + k) = 0
        · rw [rkL_0 c] at e3
          obtain ⟨h2, a1, a2, a3⟩ := M_tell e3 (by decide) (nI a).toInt64
          obtain ⟨h3, b1, b2, b3⟩ := M_tell a2 (by simp) (nI k).toInt64
          rw [if_pos c, a1]
          simp only [Option.bind_some, b1]
          refine ⟨_, rfl, by rw [ct], rfl, ?_, Ag_trans hA (Ag_trans a3 b3)⟩
          show RWm _ (rkL (rrB p) 10 (10 * a + k + 1))
          rw [rat, if_pos ⟨hat, c⟩]; exact b2
        · rw [if_neg c]
          refine ⟨_, rfl, by rw [ct], rfl, ?_, hA⟩
          show RWm _ (rkL (rrB p) 10 (10 * a + k + 1))
          rw [rat, if_neg (fun z => c z.2)]; exact e3
  · rintro ⟨y, z, h1⟩ ⟨e1, e2, e3, hA⟩
    dsimp only at e1 e2 e3 hA ⊢
    subst e2
    unfold fM_rests_35b
    rw [if_pos (by decide)]
    exact ⟨_, rfl, e1, e3, hA⟩
theorem O_rests (x : Int32) : rb_op (fB_rests x) (fM_rests x) := by
  refine rb_op_of (fun σ hσ => ?_)
  rcases rg_or (n := 20) x (by omega) with ⟨v, hv, rfl⟩ | hx
  · refine at_row hσ (nI (fb_ct (rrB (nI v)) 100)) (rkL (rrB (nI v)) 10 100) (Nat.le_trans (rkL_len _ _ _) (by omega)) (fun h hI => ?_) (fun h0 h e hI => ?_)
    · have loop : ∃ x, rb_iter rb_fuel (fun s => fB_rests_24b (nI v) s.1 s.2.1 s.2.2) ((0 : Int32), (0 : Int32), rb_sF h 3 1 0) = some x ∧ (x.1 = nI (fb_ct (rrB (nI v)) 100) ∧ RWc x.2 (rkL (rrB (nI v)) 10 100) ∧ Ag [3, 4] h x.2) := by
        refine rb_runP (fun k s => s.1 = nI (fb_ct (rrB (nI v)) (10 * k)) ∧ s.2.1 = nI k ∧ RWc s.2.2 (rkL (rrB (nI v)) 10 (10 * k)) ∧ Ag [3, 4] h s.2.2) _ 10 ⟨rfl, rfl, C_row0 h, Ag_sF (by decide) (Ag_refl _ _)⟩ (by omega) ?_ ?_
        · rintro k ⟨y, z, h1⟩ hk ⟨e1, e2, e3, hA⟩
          dsimp only at e1 e2 e3 hA ⊢
          subst e1
          subst e2
          obtain ⟨w, w1, w2, w3, w4⟩ := C_restIn hk e3
          unfold fB_rests_24b
          rw [if_neg (show ¬ (10 : Int32) ≤ nI k from nI_ge (b := 10) hk (by omega)), w1]
          simp only [Option.bind_some, nI_1]
          exact ⟨_, rfl, w2, rfl, w3, Ag_trans hA w4⟩
        · rintro ⟨y, z, h1⟩ ⟨e1, e2, e3, hA⟩
          dsimp only at e1 e2 e3 hA ⊢
          subst e2
          unfold fB_rests_24b
          rw [if_pos (by decide)]
          exact ⟨_, rfl, e1, e3, hA⟩
      obtain ⟨x, x1, x2, x3, x4⟩ := loop
      unfold fB_rests fB_rests_0
      rw [if_neg (show ¬ nI v < 0 from nI_nlt (b := 0) (by omega) (by omega)), if_pos (show nI v ≤ (20 : Int32) from nI_le (b := 20) hv (by omega)), x1]
      simp only [Option.bind_some, x2]
      exact ⟨_, rfl, x3, AgS (by decide +kernel) x4⟩
    · have loop : ∃ x, rb_iter rb_fuel (fun s => fM_rests_26b (nI v) s.1 s.2.1 s.2.2) ((0 : Int32), (0 : Int32), rb_sF h 49 6 0) = some x ∧ (x.1 = nI (fb_ct (rrB (nI v)) 100) ∧ RWm x.2 (rkL (rrB (nI v)) 10 100) ∧ Ag [1006, 53] h x.2) := by
        refine rb_runP (fun k s => s.1 = nI (fb_ct (rrB (nI v)) (10 * k)) ∧ s.2.1 = nI k ∧ RWm s.2.2 (rkL (rrB (nI v)) 10 (10 * k)) ∧ Ag [1006, 53] h s.2.2) _ 10 ⟨rfl, rfl, M_row0 h, Ag_sF (by decide) (Ag_refl _ _)⟩ (by omega) ?_ ?_
        · rintro k ⟨y, z, h1⟩ hk ⟨e1, e2, e3, hA⟩
          dsimp only at e1 e2 e3 hA ⊢
          subst e1
          subst e2
          obtain ⟨w, w1, w2, w3, w4⟩ := M_restIn hk e3
          unfold fM_rests_26b
          rw [if_neg (show ¬ (9 : Int32) < nI k from nI_nlt (a := 9) (by omega) (by omega)), w1]
          simp only [Option.bind_some, nI_1]
          exact ⟨_, rfl, w2, rfl, w3, Ag_trans hA w4⟩
        · rintro ⟨y, z, h1⟩ ⟨e1, e2, e3, hA⟩
          dsimp only at e1 e2 e3 hA ⊢
          subst e2
          unfold fM_rests_26b
          rw [if_pos (by decide)]
          exact ⟨_, rfl, e1, e3, hA⟩
      obtain ⟨x, x1, x2, x3, x4⟩ := loop
      unfold fM_rests fM_rests_0
      rw [← e, M_in_y (n := 20) (M := 20) hv (by omega) rfl, if_pos rfl, x1]
      simp only [Option.bind_some, x2]
      exact ⟨_, rfl, x3, AgS (by decide +kernel) x4⟩
  · refine at_refuse hσ (-1) (fun h hI => ?_) (fun h hI => ?_)
    · unfold fB_rests fB_rests_0
      rcases hx with hx | ⟨h1, h2⟩
      · rw [if_pos hx]
      · rw [if_neg h1, if_neg (show ¬ x ≤ (20 : Int32) from Int32.not_le.mpr h2)]
    · unfold fM_rests fM_rests_0
      rw [M_in_no (M := 20) hx, if_neg (by decide)]
