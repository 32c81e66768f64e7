/-! laws of rent -/
def lwV (i d : Nat) : Nat := i / 7 * (2 - d) + i % 7
def lwB (S : List (Nat × Nat)) (i : Nat) : Bool := (List.range S.length).all fun j => decide (lwV i (S.getD j (0, 0)).1 = (S.getD j (0, 0)).2)
theorem lwV_le {i d : Nat} (hi : i < 49) : lwV i d ≤ 20 := by
  have h1 : i / 7 ≤ 6 := by omega
  have h2 : i / 7 * (2 - d) ≤ 6 * 2 := Nat.mul_le_mul h1 (by omega)
  unfold lwV
  omega
theorem lawAt_n {i d : Nat} (hi : i < 49) (hd : d ≤ 2) : fB_lawAt (nI i) (nI d) = nI (lwV i d) ∧ fM_rentBy (nI i) (nI d) = nI (lwV i d) := by
  have e1 : nI i / 7 = nI (i / 7) := pk_div (d := 7) (by omega) (by omega) (by omega)
  have e2 : rb_rem (nI i) 7 = nI (i % 7) := pk_rem (d := 7) (by omega) (by omega) (by omega)
  have e3 : (2 : Int32) - nI d = nI (2 - d) := nI_sub (a := 2) hd
  have key : fB_lawAt (nI i) (nI d) = nI (lwV i d) := by
    unfold fB_lawAt fB_lawAt_0
    rw [e1, e2, e3, pk_mul, nI_add]
    rfl
  exact ⟨key, key⟩
theorem saw_ok {σ : sSt} (hσ : WS σ) {i : Nat} (hi : i < (zS σ).length) : ((zS σ).getD i (0, 0)).1 ≤ 2 ∧ ((zS σ).getD i (0, 0)).2 ≤ 20 := hσ.2.2.2.2.2.2.2 _ (getD_mem (d := ((0 : Nat), (0 : Nat))) hi)
theorem lw_all {S : List (Nat × Nat)} {i : Nat} : lwB S i = true ↔ ∀ j, j < S.length → lwV i (S.getD j (0, 0)).1 = (S.getD j (0, 0)).2 := by
  unfold lwB
  simp only [List.all_eq_true, List.mem_range, decide_eq_true_eq]
theorem C_isLaw {h : rb_H} {σ : sSt} (hσ : WS σ) (hI : FAc h 20 10 (zS σ)) {i : Nat} (hi : i < 49) : fB_isLaw (nI i) h = some (lwB (zS σ) i) := by
  have hl := hσ.2.2.2.2.2.2.1
  obtain ⟨f0, f3, f⟩ := hI
  have body : ∀ k, k < (zS σ).length → fB_isLaw_2b (nI i) (nI k) h = if lwV i ((zS σ).getD k (0, 0)).1 = ((zS σ).getD k (0, 0)).2 then some (.inl (nI (k + 1))) else some (.inr (.inl ())) := by
    intro k hk
    obtain ⟨k1, k2⟩ := saw_ok hσ hk
    have q1 : rb_hI h 21 k = nI ((zS σ).getD k (0, 0)).1 := (f k hk).1
    have q2 : rb_hI h 22 k = nI ((zS σ).getD k (0, 0)).2 := (f k hk).2
    have hv := lwV_le (d := ((zS σ).getD k (0, 0)).1) hi
    have ee : nI (lwV i ((zS σ).getD k (0, 0)).1) = nI ((zS σ).getD k (0, 0)).2 ↔ lwV i ((zS σ).getD k (0, 0)).1 = ((zS σ).getD k (0, 0)).2 := nI_eq (by omega) (by omega)
    unfold fB_isLaw_2b
    simp only [f3, if_neg (nI_ge hk (show (zS σ).length < 2 ^ 31 by omega)), if_neg (oob_n (show k < 12 by omega) (by omega)), cl_n (show k < 2 ^ 31 by omega), q1, q2, (lawAt_n hi k1).1, rb_lt, ee, nI_1]
  unfold fB_isLaw fB_isLaw_0
  cases hb : lwB (zS σ) i
  · have : ∃ j, j < (zS σ).length ∧ ¬ lwV i ((zS σ).getD j (0, 0)).1 = ((zS σ).getD j (0, 0)).2 := by
      refine Classical.byContradiction fun z => ?_
      have : lwB (zS σ) i = true := lw_all.mpr (fun j hj => Classical.byContradiction fun q => z ⟨j, hj, q⟩)
      rw [hb] at this; cases this
    obtain ⟨j, j1, j2, j3⟩ := fb_first this
    have run : rb_iter rb_fuel (fun s => fB_isLaw_2b (nI i) s h) (0 : Int32) = some (.inl ()) := rb_run' (fun k => nI k) j rfl (by omega) (fun k hk => by rw [body k (by omega), if_pos (Classical.not_not.mp (j3 k hk))]) (by rw [body j j1, if_neg j2])
    rw [run]
    rfl
  · have run : rb_iter rb_fuel (fun s => fB_isLaw_2b (nI i) s h) (0 : Int32) = some (.inr ()) := rb_run' (fun k => nI k) (zS σ).length rfl (by omega) (fun k hk => by rw [body k hk, if_pos (lw_all.mp hb k hk)]) (by
      unfold fB_isLaw_2b
      rw [f3, if_pos (nI_le (Nat.le_refl _) (by omega))])
    rw [run]
    rfl
theorem M_isLaw {h : rb_H} {σ : sSt} (hσ : WS σ) (hI : FAm h 38 86 87 (zS σ)) {i : Nat} (hi : i < 49) : fM_isLaw (nI i) h = some (lwB (zS σ) i) := by
  have hl := hσ.2.2.2.2.2.2.1
  obtain ⟨f3, f⟩ := hI
  have body : ∀ k, k < (zS σ).length → fM_isLaw_2b (nI i) (nI k) h = if lwV i ((zS σ).getD k (0, 0)).1 = ((zS σ).getD k (0, 0)).2 then some (.inl (nI (k + 1))) else some (.inr (.inl ())) := by
    intro k hk
    obtain ⟨k1, k2⟩ := saw_ok hσ hk
    have q1 : rb_hI h 86 k = nI ((zS σ).getD k (0, 0)).1 := (f k hk).1
    have q2 : rb_hI h 87 k = nI ((zS σ).getD k (0, 0)).2 := (f k hk).2
    have hv := lwV_le (d := ((zS σ).getD k (0, 0)).1) hi
    have ee : nI (lwV i ((zS σ).getD k (0, 0)).1) = nI ((zS σ).getD k (0, 0)).2 ↔ lwV i ((zS σ).getD k (0, 0)).1 = ((zS σ).getD k (0, 0)).2 := nI_eq (by omega) (by omega)
    unfold fM_isLaw_2b
    simp only [f3, if_neg (nI_ge hk (show (zS σ).length < 2 ^ 31 by omega)), if_neg (oob_n (show k < 10 by omega) (by omega)), cl_n (show k < 2 ^ 31 by omega), q1, q2, (lawAt_n hi k1).2, rb_lt, ee, nI_1]
  unfold fM_isLaw fM_isLaw_0
  cases hb : lwB (zS σ) i
  · have : ∃ j, j < (zS σ).length ∧ ¬ lwV i ((zS σ).getD j (0, 0)).1 = ((zS σ).getD j (0, 0)).2 := by
      refine Classical.byContradiction fun z => ?_
      have : lwB (zS σ) i = true := lw_all.mpr (fun j hj => Classical.byContradiction fun q => z ⟨j, hj, q⟩)
      rw [hb] at this; cases this
    obtain ⟨j, j1, j2, j3⟩ := fb_first this
    have run : rb_iter rb_fuel (fun s => fM_isLaw_2b (nI i) s h) (0 : Int32) = some (.inl ()) := rb_run' (fun k => nI k) j rfl (by omega) (fun k hk => by rw [body k (by omega), if_pos (Classical.not_not.mp (j3 k hk))]) (by rw [body j j1, if_neg j2])
    rw [run]
    rfl
  · have run : rb_iter rb_fuel (fun s => fM_isLaw_2b (nI i) s h) (0 : Int32) = some (.inr ()) := rb_run' (fun k => nI k) (zS σ).length rfl (by omega) (fun k hk => by rw [body k hk, if_pos (lw_all.mp hb k hk)]) (by
      unfold fM_isLaw_2b
      rw [f3, if_pos (nI_le (Nat.le_refl _) (by omega))])
    rw [run]
    rfl
/-- what is told: the first that is so, as two numbers -/
def rkL (b : Nat → Bool) (d : Nat) : Nat → List Int64
  | 0 => []
  | k + 1 => if b k = true ∧ fb_ct b k = 0 then [(nI (k / d)).toInt64, (nI (k % d)).toInt64] else rkL b d k
theorem rkL_len (b : Nat → Bool) (d : Nat) : ∀ k, (rkL b d k).length ≤ 2
  | 0 => Nat.zero_le _
  | k + 1 => by
    unfold rkL
    split
    · exact Nat.le_refl _
    · exact rkL_len b d k
theorem rkL_0 {b : Nat → Bool} {d : Nat} : ∀ {k}, fb_ct b k = 0 → rkL b d k = []
  | 0, _ => rfl
  | k + 1, h => by
    rw [fb_ct_succ] at h
    have : ¬ (b k = true ∧ fb_ct b k = 0) := fun z => by rw [if_pos z.1] at h; omega
    show (if _ then _ else _) = _
    rw [if_neg this]
    exact rkL_0 (by omega)
theorem O_laws : rb_op fB_laws fM_laws := by
  refine rb_op_of (fun σ hσ => ?_)
  have hl := hσ.2.2.2.2.2.2.1
  refine at_row hσ (nI (fb_ct (lwB (zS σ)) 49)) (rkL (lwB (zS σ)) 7 49) (Nat.le_trans (rkL_len _ _ _) (by omega)) (fun h hI => ?_) (fun h0 h e hI => ?_)
  · have loop : ∃ x, rb_iter rb_fuel (fun s => fB_laws_12b s.1 s.2.1 s.2.2) ((0 : Int32), (0 : Int32), rb_sF h 3 1 0) = some x ∧ (x.1 = nI (fb_ct (lwB (zS σ)) 49) ∧ RWc x.2 (rkL (lwB (zS σ)) 7 49) ∧ Ag [3, 4] h x.2) := by
      refine rb_runP (fun k s => s.1 = nI (fb_ct (lwB (zS σ)) k) ∧ s.2.1 = nI k ∧ RWc s.2.2 (rkL (lwB (zS σ)) 7 k) ∧ Ag [3, 4] h s.2.2) _ 49 ⟨rfl, rfl, C_row0 h, Ag_sF (by decide) (Ag_refl _ _)⟩ (by omega) ?_ ?_
      · rintro k ⟨y, z, h1⟩ hk ⟨e1, e2, e3, hA⟩
        dsimp only at e1 e2 e3 hA ⊢
        subst e1
        subst e2
        have hc := fb_ct_le (lwB (zS σ)) k
        have d1 : nI k / 7 = nI (k / 7) := pk_div (d := 7) (by omega) (by omega) (by omega)
        have d2 : rb_rem (nI k) 7 = nI (k % 7) := pk_rem (d := 7) (by omega) (by omega) (by omega)
        have e1 : nI (fb_ct (lwB (zS σ)) k + 1) = (1 : Int32) ↔ fb_ct (lwB (zS σ)) k = 0 := by
          have : nI (fb_ct (lwB (zS σ)) k + 1) = nI 1 ↔ fb_ct (lwB (zS σ)) k + 1 = 1 := nI_eq (by omega) (by omega)
          rw [show (1 : Int32) = nI 1 from rfl, this]
          omega
        unfold fB_laws_12b fB_laws_48l12
        rw [if_neg (show ¬ (49 : Int32) ≤ nI k from nI_ge (b := 49) hk (by omega)), C_isLaw hσ (FAc_ag hI.2.2.2.2.2.2.2 hA (by decide) (by decide)) hk]
        simp only [Option.bind_some, nI_1, e1, d1, d2]
        cases hb : lwB (zS σ) k
        · rw [if_neg (by decide)]
          refine ⟨_, rfl, ?_, rfl, ?_, hA⟩
          · rw [fb_ct_succ, hb]; rfl
          · have : rkL (lwB (zS σ)) 7 (k + 1) = rkL (lwB (zS σ)) 7 k := if_neg (fun z => by rw [hb] at z; exact absurd z.1 (by decide))
            rw [this]; exact e3
        · rw [if_pos rfl]
          by_cases c : fb_ct (lwB (zS σ)) k = 0
          · obtain ⟨h2, a1, a2, a3⟩ := C_tell1 (nI (k / 7)).toInt64 (nI (k % 7)).toInt64 h1
            rw [if_pos c, a1]
            refine ⟨_, rfl, ?_, rfl, ?_, Ag_trans hA a3⟩
            · rw [fb_ct_succ, hb]; rfl
            · have : rkL (lwB (zS σ)) 7 (k + 1) = _ := if_pos ⟨hb, c⟩
              rw [this]; exact a2
          · rw [if_neg c]
            refine ⟨_, rfl, ?_, rfl, ?_, hA⟩
            · rw [fb_ct_succ, hb]; rfl
            · have : rkL (lwB (zS σ)) 7 (k + 1) = rkL (lwB (zS σ)) 7 k := if_neg (fun z => c z.2)
              rw [this]; exact e3
      · rintro ⟨y, z, h1⟩ ⟨e1, e2, e3, hA⟩
        dsimp only at e1 e2 e3 hA ⊢
        subst e2
        unfold fB_laws_12b
        rw [if_pos (by decide)]
        exact ⟨_, rfl, e1, e3, hA⟩
    obtain ⟨x, x1, x2, x3, x4⟩ := loop
    unfold fB_laws fB_laws_0
    rw [x1]
    simp only [Option.bind_some, x2]
    exact ⟨_, rfl, x3, AgS (by decide +kernel) x4⟩
  · have loop : ∃ x, rb_iter rb_fuel (fun s => fM_laws_14b s.1 s.2.1 s.2.2) ((0 : Int32), (0 : Int32), rb_sF h 49 6 0) = some x ∧ (x.1 = nI (fb_ct (lwB (zS σ)) 49) ∧ RWm x.2 (rkL (lwB (zS σ)) 7 49) ∧ Ag [1006, 53] h x.2) := by
      refine rb_runP (fun k s => s.1 = nI (fb_ct (lwB (zS σ)) k) ∧ s.2.1 = nI k ∧ RWm s.2.2 (rkL (lwB (zS σ)) 7 k) ∧ Ag [1006, 53] h s.2.2) _ 49 ⟨rfl, rfl, M_row0 h, Ag_sF (by decide) (Ag_refl _ _)⟩ (by omega) ?_ ?_
      · rintro k ⟨y, z, h1⟩ hk ⟨e1, e2, e3, hA⟩
        dsimp only at e1 e2 e3 hA ⊢
        subst e1
        subst e2
        have hc := fb_ct_le (lwB (zS σ)) k
        have d1 : nI k / 7 = nI (k / 7) := pk_div (d := 7) (by omega) (by omega) (by omega)
        have d2 : rb_rem (nI k) 7 = nI (k % 7) := pk_rem (d := 7) (by omega) (by omega) (by omega)
        have e1 : nI (fb_ct (lwB (zS σ)) k) = (0 : Int32) ↔ fb_ct (lwB (zS σ)) k = 0 := nI_eq (b := 0) (by omega) (by omega)
        unfold fM_laws_14b fM_laws_53l14 fM_laws_56l14
        rw [if_neg (show ¬ (49 : Int32) ≤ nI k from nI_ge (b := 49) hk (by omega)), M_isLaw hσ (FAm_ag hI.2.2.2.2.2.2.2.1 hA (by decide)) hk]
        simp only [Option.bind_some, nI_1, e1, d1, d2]
        cases hb : lwB (zS σ) k
        · rw [if_neg (by decide)]
          refine ⟨_, rfl, ?_, rfl, ?_, hA⟩
          · rw [fb_ct_succ, hb]; rfl
          · have : rkL (lwB (zS σ)) 7 (k + 1) = rkL (lwB (zS σ)) 7 k := if_neg (fun z => by rw [hb] at z; exact absurd z.1 (by decide))
            rw [this]; exact e3
        · rw [if_pos rfl]
          by_cases c : fb_ct (lwB (zS σ)) k = 0
          · rw [rkL_0 c] at e3
            obtain ⟨h2, a1, a2, a3⟩ := M_tell e3 (by decide) (nI (k / 7)).toInt64
            obtain ⟨h3, b1, b2, b3⟩ := M_tell a2 (by simp) (nI (k % 7)).toInt64
            rw [if_pos c, a1]
            simp only [Option.bind_some, b1]
            refine ⟨_, rfl, ?_, rfl, ?_, Ag_trans hA (Ag_trans a3 b3)⟩
            · rw [fb_ct_succ, hb]; rfl
            · have : rkL (lwB (zS σ)) 7 (k + 1) = _ := if_pos ⟨hb, c⟩
              rw [this]; exact b2
          · rw [if_neg c]
            refine ⟨_, rfl, ?_, rfl, ?_, hA⟩
            · rw [fb_ct_succ, hb]; rfl
            · have : rkL (lwB (zS σ)) 7 (k + 1) = rkL (lwB (zS σ)) 7 k := if_neg (fun z => c z.2)
              rw [this]; exact e3
      · rintro ⟨y, z, h1⟩ ⟨e1, e2, e3, hA⟩
        dsimp only at e1 e2 e3 hA ⊢
        subst e2
        unfold fM_laws_14b
        rw [if_pos (by decide)]
        exact ⟨_, rfl, e1, e3, hA⟩
    obtain ⟨x, x1, x2, x3, x4⟩ := loop
    unfold fM_laws fM_laws_0
    rw [← e, x1]
    simp only [Option.bind_some, x2]
    exact ⟨_, rfl, x3, AgS (by decide +kernel) x4⟩
