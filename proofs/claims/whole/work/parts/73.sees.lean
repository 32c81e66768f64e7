/-! where to look next; landlords at rest -/
def mxv (f : Nat → Nat) : Nat → Nat
  | 0 => 0
  | n + 1 => max (mxv f n) (f n)
theorem mxv_le {f : Nat → Nat} {b : Nat} (h : ∀ v, f v ≤ b) : ∀ n, mxv f n ≤ b
  | 0 => Nat.zero_le _
  | n + 1 => by
    have := mxv_le h n
    have := h n
    show max (mxv f n) (f n) ≤ b
    omega
theorem mxv_upd {f g : Nat → Nat} {v0 : Nat} (h0 : g v0 = f v0 + 1) (h : ∀ v, v ≠ v0 → g v = f v) : ∀ n, mxv g n = if v0 < n then max (mxv f n) (g v0) else mxv f n
  | 0 => by rw [if_neg (Nat.not_lt_zero _)]; rfl
  | n + 1 => by
    have ih := mxv_upd h0 h n
    show max (mxv g n) (g n) = if v0 < n + 1 then max (max (mxv f n) (f n)) (g v0) else max (mxv f n) (f n)
    by_cases e : n = v0
    · subst e
      rw [if_neg (Nat.lt_irrefl _)] at ih
      rw [if_pos (Nat.lt_succ_self _), ih]
      omega
    · rw [h n e]
      by_cases c : v0 < n
      · rw [if_pos c] at ih
        rw [if_pos (by omega), ih]
        omega
      · rw [if_neg c] at ih
        rw [if_neg (by omega), ih]
/-- how many laws below k fit, by the rent v at d -/
def cnL (S : List (Nat × Nat)) (d k v : Nat) : Nat := fb_ct (fun i => lwB S i && decide (lwV i d = v)) k
def mxL (S : List (Nat × Nat)) (d k : Nat) : Nat := mxv (cnL S d k) 21
theorem mxL_le (S : List (Nat × Nat)) (d k : Nat) : mxL S d k ≤ k := mxv_le (fun _ => fb_ct_le _ _) _
theorem C_mostLeft {h : rb_H} {σ : sSt} (hσ : WS σ) (hI : FAc h 20 10 (zS σ)) {d : Nat} (hd : d ≤ 2) : fB_mostLeft (nI d) h = some (nI (mxL (zS σ) d 49)) := by
  unfold fB_mostLeft fB_mostLeft_0
  have run : rb_iter rb_fuel (fun s => fB_mostLeft_4b (nI d) s.1 s.2 h) ((0 : Int32), (0 : Int32)) = some (nI (mxL (zS σ) d 49)) := by
    refine rb_run' (fun v => (nI (mxv (cnL (zS σ) d 49) v), nI v)) 21 rfl (by omega) (fun v hv => ?_) ?_
    · show fB_mostLeft_4b (nI d) _ (nI v) h = _
      have inner : rb_iter rb_fuel (fun s => fB_mostLeft_16b (nI d) (nI (mxv (cnL (zS σ) d 49) v)) (nI v) s.1 s.2 h) ((0 : Int32), (0 : Int32)) = some (nI (cnL (zS σ) d 49 v)) := by
        refine rb_run' (fun k => (nI (cnL (zS σ) d k v), nI k)) 49 rfl (by omega) (fun k hk => ?_) ?_
        · show fB_mostLeft_16b (nI d) _ (nI v) _ (nI k) h = _
          have hv2 := lwV_le (d := d) hk
          have ee : nI (lwV k d) = nI v ↔ lwV k d = v := nI_eq (by omega) (by omega)
          have sc : cnL (zS σ) d (k + 1) v = cnL (zS σ) d k v + (if (lwB (zS σ) k && decide (lwV k d = v)) = true then 1 else 0) := rfl
          unfold fB_mostLeft_16b fB_mostLeft_48l16 fB_mostLeft_49l16
          rw [if_neg (show ¬ (49 : Int32) ≤ nI k from nI_ge (b := 49) hk (by omega)), (lawAt_n hk hd).1]
          simp only [rb_lt, ee, nI_1, i0, sc]
          by_cases c : lwV k d = v
          · rw [if_pos c, C_isLaw hσ hI hk]
            simp only [Option.bind_some]
            cases lwB (zS σ) k <;> simp [c]
          · rw [if_neg c]
            simp [c]
        · rfl
      have b1 := mxv_le (f := cnL (zS σ) d 49) (b := 49) (fun _ => fb_ct_le _ _) v
      have b2 : cnL (zS σ) d 49 v ≤ 49 := fb_ct_le _ _
      unfold fB_mostLeft_4b
      rw [if_neg (show ¬ (20 : Int32) < nI v from nI_nlt (a := 20) (by omega) (by omega)), inner]
      simp only [Option.bind_some, nI_1, max_n (show mxv (cnL (zS σ) d 49) v < 2 ^ 31 by omega) (show cnL (zS σ) d 49 v < 2 ^ 31 by omega)]
      rfl
    · rfl
  rw [run]
  rfl
theorem M_mostLeft {h : rb_H} {σ : sSt} (hσ : WS σ) (hI : FAm h 38 86 87 (zS σ)) {d : Nat} (hd : d ≤ 2) (v1 v2 : Int32) : ∃ x y, rb_iter rb_fuel (fun s => fM_sees_21b v1 v2 (nI d) s.1 s.2) ((0 : Int32), h) = some x ∧ rb_iter rb_fuel (fun s => fM_sees_48b v1 v2 (nI d) s.1 s.2.1 s.2.2) ((0 : Int32), (0 : Int32), x) = some y ∧ y.1 = nI (mxL (zS σ) d 49) ∧ Ag [88] h y.2 := by
  have a : ∃ x, rb_iter rb_fuel (fun s => fM_sees_21b v1 v2 (nI d) s.1 s.2) ((0 : Int32), h) = some x ∧ (Ag [88] h x ∧ ∀ v, v < 21 → rb_hI x 88 v = 0) := by
    refine rb_runP (fun k s => s.1 = nI k ∧ Ag [88] h s.2 ∧ ∀ v, v < k → rb_hI s.2 88 v = 0) _ 21 ⟨rfl, Ag_refl _ _, fun v hv => absurd hv (Nat.not_lt_zero _)⟩ (by omega) ?_ ?_
    · rintro k ⟨w, h1⟩ hk ⟨e, hA, hV⟩
      dsimp only at e hA hV ⊢
      subst e
      unfold fM_sees_21b
      rw [if_neg (show ¬ (20 : Int32) < nI k from nI_nlt (a := 20) (by omega) (by omega)), if_neg (oob_n hk (by omega)), cl_n (by omega)]
      refine ⟨_, rfl, nI_1 k, Ag_sI (by simp) hA, fun v hv => ?_⟩
      rw [hI_sI]
      by_cases e : v = k
      · rw [if_pos ⟨rfl, e⟩]
      · rw [if_neg (fun z => e z.2)]; exact hV v (by omega)
    · rintro ⟨w, h1⟩ ⟨e, hA, hV⟩
      dsimp only at e hA hV ⊢
      subst e
      unfold fM_sees_21b
      rw [if_pos (by decide)]
      exact ⟨_, rfl, hA, hV⟩
  obtain ⟨x, m1, m2, m3⟩ := a
  have b : ∃ y, rb_iter rb_fuel (fun s => fM_sees_48b v1 v2 (nI d) s.1 s.2.1 s.2.2) ((0 : Int32), (0 : Int32), x) = some y ∧ (y.1 = nI (mxL (zS σ) d 49) ∧ Ag [88] h y.2) := by
    have z0 : mxL (zS σ) d 0 = 0 := by
      have := mxL_le (zS σ) d 0
      omega
    refine rb_runP (fun k s => s.1 = nI (mxL (zS σ) d k) ∧ s.2.1 = nI k ∧ Ag [88] h s.2.2 ∧ ∀ v, v < 21 → rb_hI s.2.2 88 v = nI (cnL (zS σ) d k v)) _ 49 ⟨by rw [z0]; rfl, rfl, m2, fun v hv => m3 v hv⟩ (by omega) ?_ ?_
    · rintro k ⟨y, w, h1⟩ hk ⟨e1, e2, hA, hV⟩
      dsimp only at e1 e2 hA hV ⊢
      subst e1
      subst e2
      have hv2 := lwV_le (d := d) hk
      unfold fM_sees_48b fM_sees_100l48
      rw [if_neg (show ¬ (49 : Int32) ≤ nI k from nI_ge (b := 49) hk (by omega)), M_isLaw hσ (FAm_ag hI hA (by decide)) hk]
      simp only [Option.bind_some, (lawAt_n hk hd).2, rb_lt, if_neg (oob_n (show lwV k d < 21 by omega) (by omega)), cl_n (show lwV k d < 2 ^ 31 by omega), hV _ (show lwV k d < 21 by omega), nI_1]
      have other : ∀ v, v ≠ lwV k d → cnL (zS σ) d (k + 1) v = cnL (zS σ) d k v := by
        intro v hv
        show cnL (zS σ) d k v + (if (lwB (zS σ) k && decide (lwV k d = v)) = true then 1 else 0) = _
        rw [if_neg]
        · rfl
        · rw [decide_eq_false (fun z => hv z.symm), Bool.and_false]; decide
      cases hb : lwB (zS σ) k
      · rw [if_neg (by decide)]
        have same : ∀ v, cnL (zS σ) d (k + 1) v = cnL (zS σ) d k v := by
          intro v
          show cnL (zS σ) d k v + (if (lwB (zS σ) k && decide (lwV k d = v)) = true then 1 else 0) = _
          rw [hb, Bool.false_and, if_neg (by decide)]
          rfl
        have sm : mxL (zS σ) d (k + 1) = mxL (zS σ) d k := by
          unfold mxL
          rw [show cnL (zS σ) d (k + 1) = cnL (zS σ) d k from funext same]
        refine ⟨_, rfl, by rw [sm], rfl, hA, fun v hv => by rw [same v]; exact hV v hv⟩
      · rw [if_pos rfl]
        have plus : cnL (zS σ) d (k + 1) (lwV k d) = cnL (zS σ) d k (lwV k d) + 1 := by
          show cnL (zS σ) d k (lwV k d) + (if (lwB (zS σ) k && decide (lwV k d = lwV k d)) = true then 1 else 0) = _
          rw [hb, decide_eq_true rfl]; rfl
        have sm : mxL (zS σ) d (k + 1) = max (mxL (zS σ) d k) (cnL (zS σ) d (k + 1) (lwV k d)) := by
          have := mxv_upd plus other 21
          rw [if_pos (by omega)] at this
          exact this
        have c1 := mxL_le (zS σ) d k
        have c2 : cnL (zS σ) d k (lwV k d) ≤ k := fb_ct_le _ _
        have hself : rb_hI (rb_sI h1 88 (lwV k d) (nI (cnL (zS σ) d k (lwV k d) + 1))) 88 (lwV k d) = nI (cnL (zS σ) d k (lwV k d) + 1) := by rw [hI_sI, if_pos ⟨rfl, rfl⟩]
        rw [hself, max_n (by omega) (by omega)]
        refine ⟨_, rfl, by rw [sm, plus], rfl, Ag_sI (by simp) hA, fun v hv => ?_⟩
        rw [hI_sI]
        by_cases e : v = lwV k d
        · rw [if_pos ⟨rfl, e⟩, e, plus]
        · rw [if_neg (fun z => e z.2), other v e]; exact hV v hv
    · rintro ⟨y, w, h1⟩ ⟨e1, e2, hA, hV⟩
      dsimp only at e1 e2 hA hV ⊢
      subst e2
      unfold fM_sees_48b
      rw [if_pos (by decide)]
      exact ⟨_, rfl, e1, hA⟩
  obtain ⟨y, l1, l2, l3⟩ := b
  exact ⟨x, y, m1, l1, l2, l3⟩
theorem O_sees : rb_op fB_sees fM_sees := by
  refine rb_op_of (fun σ hσ => ?_)
  have hr : ∀ k, (fun d => mxL (zS σ) d 49) k ≤ 49 := fun k => mxL_le _ _ _
  have some3 : ∃ q, aO (fun _ => true) (fun d => mxL (zS σ) d 49) 3 = some q := by
    have h1 : aO (fun _ => true) (fun d => mxL (zS σ) d 49) 1 = some (mxL (zS σ) 0 49, 0) := aO_n rfl rfl
    have keep : ∀ k q, aO (fun _ => true) (fun d => mxL (zS σ) d 49) k = some q → ∃ q', aO (fun _ => true) (fun d => mxL (zS σ) d 49) (k + 1) = some q' := by
      intro k q hq
      by_cases hl : mxL (zS σ) k 49 < q.1
      · exact ⟨_, aO_y hq rfl hl⟩
      · exact ⟨_, aO_x hq hl⟩
    obtain ⟨q2, h2⟩ := keep 1 _ h1
    exact keep 2 _ h2
  obtain ⟨q, hq⟩ := some3
  have q49 := aO_le hr 3 q hq
  have cl : ∀ h, IC h σ → rb_iter rb_fuel (fun s => fB_sees_7b s.1 s.2.1 s.2.2 h) ((50 : Int32), (-1 : Int32), (0 : Int32)) = some (nI q.1, nI q.2) := by
    intro h hI
    have lp : ∃ x, rb_iter rb_fuel (fun s => fB_sees_7b s.1 s.2.1 s.2.2 h) ((50 : Int32), (-1 : Int32), (0 : Int32)) = some x ∧ (x.1 = nI q.1 ∧ x.2 = nI q.2) := by
      refine rb_runP (fun k s => s.1 = chL (aO (fun _ => true) (fun d => mxL (zS σ) d 49) k) 50 ∧ s.2.1 = chF (aO (fun _ => true) (fun d => mxL (zS σ) d 49) k) (-1) ∧ s.2.2 = nI k) _ 3 ⟨rfl, rfl, rfl⟩ (by omega) ?_ ?_
      · rintro k ⟨y, z, u⟩ hk ⟨e1, e2, e3⟩
        dsimp only at e1 e2 e3 ⊢
        subst e3
        have st := aO_step (c := fun _ => true) hr (show 49 < 50 by omega) (by omega) (k := k) rfl (-1)
        unfold fB_sees_7b fB_sees_30l7
        rw [if_neg (show ¬ (2 : Int32) < nI k from nI_nlt (a := 2) (by omega) (by omega)), C_mostLeft hσ hI.2.2.2.2.2.2.2 (by omega)]
        simp only [Option.bind_some, nI_1]
        by_cases c : y ≤ nI (mxL (zS σ) k 49)
        · rw [if_pos c]
          have : ¬ nI (mxL (zS σ) k 49) < chL (aO (fun _ => true) (fun d => mxL (zS σ) d 49) k) (nI 50) := fun z => by
            have q : ¬ nI (mxL (zS σ) k 49) < y := Int32.not_lt.mpr c
            rw [e1] at q
            exact q z
          have same := st.2 this
          exact ⟨_, rfl, by rw [same]; exact e1, by rw [same]; exact e2, rfl⟩
        · rw [if_neg c]
          have : nI (mxL (zS σ) k 49) < chL (aO (fun _ => true) (fun d => mxL (zS σ) d 49) k) (nI 50) := by
            have q : nI (mxL (zS σ) k 49) < y := Int32.not_le.mp c
            rw [e1] at q
            exact q
          obtain ⟨s1, s2⟩ := st.1 this
          exact ⟨_, rfl, s1.symm, s2.symm, rfl⟩
      · rintro ⟨y, z, u⟩ ⟨e1, e2, e3⟩
        dsimp only at e1 e2 e3 ⊢
        subst e3
        rw [hq] at e1 e2
        unfold fB_sees_7b
        rw [if_pos (by decide)]
        exact ⟨_, rfl, e1, e2⟩
    obtain ⟨x, x1, x2, x3⟩ := lp
    rw [x1, ← x2, ← x3]
  have ml : ∀ h, IM h σ → ∃ h', rb_iter rb_fuel (fun s => fM_sees_13b s.1 s.2.1 s.2.2.1 s.2.2.2) ((-1 : Int32), (1000000 : Int32), (0 : Int32), h) = some (nI q.2, nI q.1, h') ∧ Ag [88] h h' := by
    intro h hI
    have lp : ∃ x, rb_iter rb_fuel (fun s => fM_sees_13b s.1 s.2.1 s.2.2.1 s.2.2.2) ((-1 : Int32), (1000000 : Int32), (0 : Int32), h) = some x ∧ (x.1 = nI q.2 ∧ x.2.1 = nI q.1 ∧ Ag [88] h x.2.2) := by
      refine rb_runP (fun k s => s.1 = chF (aO (fun _ => true) (fun d => mxL (zS σ) d 49) k) (-1) ∧ s.2.1 = chL (aO (fun _ => true) (fun d => mxL (zS σ) d 49) k) 1000000 ∧ s.2.2.1 = nI k ∧ Ag [88] h s.2.2.2) _ 3 ⟨rfl, rfl, rfl, Ag_refl _ _⟩ (by omega) ?_ ?_
      · rintro k ⟨y, z, u, h1⟩ hk ⟨e1, e2, e3, hA⟩
        dsimp only at e1 e2 e3 hA ⊢
        subst e3
        have st := aO_step (c := fun _ => true) hr (show 49 < 1000000 by omega) (by omega) (k := k) rfl (-1)
        obtain ⟨x, w, a1, a2, a3, a4⟩ := M_mostLeft hσ (FAm_ag hI.2.2.2.2.2.2.2.1 hA (by decide)) (show k ≤ 2 by omega) y z
        unfold fM_sees_13b fM_sees_120l13
        rw [if_neg (show ¬ (2 : Int32) < nI k from nI_nlt (a := 2) (by omega) (by omega)), a1]
        simp only [Option.bind_some, a2, a3, nI_1]
        by_cases c : nI (mxL (zS σ) k 49) < z
        · rw [if_pos c]
          rw [e2] at c
          obtain ⟨s1, s2⟩ := st.1 c
          exact ⟨_, rfl, s2.symm, s1.symm, rfl, Ag_trans hA a4⟩
        · rw [if_neg c]
          rw [e2] at c
          have same := st.2 c
          exact ⟨_, rfl, by rw [same]; exact e1, by rw [same]; exact e2, rfl, Ag_trans hA a4⟩
      · rintro ⟨y, z, u, h1⟩ ⟨e1, e2, e3, hA⟩
        dsimp only at e1 e2 e3 hA ⊢
        subst e3
        rw [hq] at e1 e2
        unfold fM_sees_13b
        rw [if_pos (by decide)]
        exact ⟨_, rfl, e1, e2, hA⟩
    obtain ⟨x, x1, x2, x3, x4⟩ := lp
    exact ⟨x.2.2, by rw [x1, ← x2, ← x3], x4⟩
  have ez : nI q.1 = (0 : Int32) ↔ q.1 = 0 := nI_eq (b := 0) (by omega) (by omega)
  by_cases c : q.1 = 0
  · refine at_quiet hσ (-2) (fun h hI => ⟨h, ?_, Ag_refl _ _⟩) (fun h0 h e hI => ?_)
    · unfold fB_sees fB_sees_0
      rw [cl h hI]
      simp only [Option.bind_some]
      rw [if_pos (ez.mpr c)]
    · obtain ⟨h1, a1, a2⟩ := ml h hI
      unfold fM_sees fM_sees_0
      rw [← e, a1]
      simp only [Option.bind_some]
      rw [if_pos (ez.mpr c)]
      exact ⟨h1, rfl, AgS (by decide +kernel) a2⟩
  · refine at_row hσ (nI q.2) [(nI q.1).toInt64] (by simp) (fun h hI => ?_) (fun h0 h e hI => ?_)
    · obtain ⟨h1, a1, a2, a3⟩ := C_tell2 (nI q.1).toInt64 h
      unfold fB_sees fB_sees_0
      rw [cl h hI]
      simp only [Option.bind_some]
      rw [if_neg (fun z => c (ez.mp z)), a1]
      exact ⟨h1, rfl, a2, AgS (by decide +kernel) a3⟩
    · obtain ⟨h1, b1, b2⟩ := ml h hI
      obtain ⟨h2, a1, a2, a3⟩ := M_tellA (nI q.1).toInt64 h1
      unfold fM_sees fM_sees_0
      rw [← e, b1]
      simp only [Option.bind_some]
      rw [if_neg (fun z => c (ez.mp z)), a1]
      exact ⟨h2, rfl, a2, Ag_trans (AgS (by decide +kernel) b2) (AgS (by decide +kernel) a3)⟩
