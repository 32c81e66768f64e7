/-! hops: the class -/
theorem bits_zero {p : Nat → Bool} {n : Nat} (hn : n ≤ 32) : bits p n = 0 ↔ ∀ i, i < n → p i = false := by
  constructor
  · intro h i hi
    have := bits_bt p n hn i (by omega)
    rw [h, b_0] at this
    simpa [hi] using this.symm
  · intro h
    refine b_ext (fun i hi => ?_)
    rw [bits_bt p n hn i hi, b_0]
    by_cases e : i < n
    · rw [h i e]; simp
    · simp [e]
theorem C_leading {h : rb_H} {B : sBd} {p : Nat} (hK : WK h B p) (a : Nat → Bool) : fW_leadingTo (bits a 25) h = some (bits (toB (goB B p) a) 25) := by
  unfold fW_leadingTo fW_leadingTo_0
  refine rb_runB (fun k => (bits (toB (goB B p) a) k, nI k)) 25 (bits (toB (goB B p) a) 25) rfl (by omega) (fun k hk => ?_) rfl rfl
  show fW_leadingTo_4b (bits a 25) _ (nI k) h = _
  have hz : (bits (goB B p k) 25 &&& bits a 25 = 0) ↔ toB (goB B p) a k = false := by
    rw [and_bits _ _ (by omega), bits_zero (by omega)]
    constructor
    · intro h
      cases e : toB (goB B p) a k with
      | false => rfl
      | true =>
        obtain ⟨t, t1, t2, t3⟩ := toB_iff.mp e
        have := h t t1
        rw [t2, t3] at this
        cases this
    · intro h t ht
      cases e : (goB B p k t && a t) with
      | false => rfl
      | true =>
        rw [Bool.and_eq_true] at e
        have := toB_iff.mpr ⟨t, ht, e.1, e.2⟩
        rw [h] at this
        cases this
  unfold fW_leadingTo_4b fW_leadingTo_29l4
  rw [if_neg (show ¬ (25 : Int32) ≤ nI k from nI_ge (b := 25) hk (by omega)), if_neg (oob_n hk (by omega)), cl_n (by omega), hK.2.2 k hk, nI_1, bits_succ (toB (goB B p) a) k]
  cases e : toB (goB B p) a k
  · rw [if_pos (hz.mpr e), if_neg (by decide)]
  · rw [if_neg (fun z => by rw [hz.mp z] at e; cases e), if_pos rfl]
/-- the class's levels up to k -/
def CL (h : rb_H) (B : sBd) (p g k : Nat) : Prop := WK h B p ∧ ∀ j, j ≤ k → rb_hI h 29 j = bits (Lv (goB B p) (frB B p) g j) 25
theorem C_level {h : rb_H} {B : sBd} {p g k : Nat} (hC : CL h B p g k) (hk : k + 1 < 25) (hne : ∃ t, t < 25 ∧ Lv (goB B p) (frB B p) g k t = true) (hns : Lv (goB B p) (frB B p) g k (bP B p) = false) (hpl : bP B p < 25) : ∃ h', fW_fewestTo_25b (bits (fun s => frB B p s && !Sn (goB B p) (frB B p) g k s) 25) (nI k) h = some (.inl (bits (fun s => frB B p s && !Sn (goB B p) (frB B p) g (k + 1) s) 25, nI (k + 1), h')) ∧ CL h' B p g (k + 1) ∧ Ag [29] h h' := by
  have e1 : (nI k + 1 : Int32) = nI (k + 1) := nI_1 k
  have lk := hC.2 k (Nat.le_refl k)
  have nz : ¬ bits (Lv (goB B p) (frB B p) g k) 25 = 0 := by
    rw [bits_zero (by omega)]
    intro z
    obtain ⟨t, t1, t2⟩ := hne
    rw [z t t1] at t2
    cases t2
  have hh : fB_holds (bits (Lv (goB B p) (frB B p) g k) 25) (nI (bP B p)) = false := by
    rw [holds_bt _ (by omega), bits_bt _ 25 (by omega) _ (by omega), hns]
    simp
  have new : bits (toB (goB B p) (Lv (goB B p) (frB B p) g k)) 25 &&& bits (fun s => frB B p s && !Sn (goB B p) (frB B p) g k s) 25 = bits (Lv (goB B p) (frB B p) g (k + 1)) 25 := and_bits _ _ (by omega)
  have fresh : bits (fun s => frB B p s && !Sn (goB B p) (frB B p) g k s) 25 &&& (bits (Lv (goB B p) (frB B p) g (k + 1)) 25 ^^^ (-1)) = bits (fun s => frB B p s && !Sn (goB B p) (frB B p) g (k + 1) s) 25 := by
    refine bits_of (by omega) (fun i hi => ?_)
    rw [b_and, xor_m1 _ hi, bits_bt _ 25 (by omega) i hi, bits_bt _ 25 (by omega) i hi, Sn_s]
    cases decide (i < 25) <;> cases frB B p i <;> cases Sn (goB B p) (frB B p) g k i <;> cases Lv (goB B p) (frB B p) g (k + 1) i <;> rfl
  have A : Ag [29] h (rb_sI h 29 (k + 1) (bits (Lv (goB B p) (frB B p) g (k + 1)) 25)) := Ag_sI (by simp) (Ag_refl _ _)
  unfold fW_fewestTo_25b
  simp only [e1, if_neg (show ¬ (25 : Int32) ≤ nI (k + 1) from nI_ge (b := 25) hk (by omega)), if_neg (oob_n (show k < 25 by omega) (by omega)), if_neg (oob_n hk (by omega)), cl_n (show k < 2 ^ 31 by omega), cl_n (show k + 1 < 2 ^ 31 by omega), lk, if_neg nz, hC.1.1, hh, C_leading hC.1, Option.bind_some, new, hI_sI, and_self, if_true, fresh]
  refine ⟨_, rfl, ⟨WK_ag hC.1 A (by decide), fun j hj => ?_⟩, A⟩
  rw [hI_sI]
  by_cases e : j = k + 1
  · rw [if_pos ⟨rfl, e⟩, e]
  · rw [if_neg (fun z => e z.2)]
    exact hC.2 j (by omega)
theorem C_level0 {h : rb_H} {B : sBd} {p g : Nat} (hK : WK h B p) (hg : g < 25) : CL (rb_sI h 29 0 (rb_shl 1 (nI g))) B p g 0 ∧ (rb_hF (rb_sI h 29 0 (rb_shl 1 (nI g))) 27 7 &&& (rb_hI (rb_sI h 29 0 (rb_shl 1 (nI g))) 29 0 ^^^ (-1))) = bits (fun s => frB B p s && !Sn (goB B p) (frB B p) g 0 s) 25 ∧ Ag [29] h (rb_sI h 29 0 (rb_shl 1 (nI g))) := by
  have A : Ag [29] h (rb_sI h 29 0 (rb_shl 1 (nI g))) := Ag_sI (by simp) (Ag_refl _ _)
  refine ⟨⟨WK_ag hK A (by decide), fun j hj => ?_⟩, ?_, A⟩
  · have : j = 0 := by omega
    subst this
    rw [hI_sI, if_pos ⟨rfl, rfl⟩]
    refine bits_of (by omega) (fun i hi => ?_)
    rw [shl1_bt (by omega) hi, Lv_0]
    by_cases e : i = g
    · subst e; simp [hg]
    · simp [e]
  · have K7 : rb_hF (rb_sI h 29 0 (rb_shl 1 (nI g))) 27 7 = bits (frB B p) 25 := hK.2.1
    rw [K7, hI_sI, if_pos ⟨rfl, rfl⟩]
    refine bits_of (by omega) (fun i hi => ?_)
    rw [b_and, xor_m1 _ hi, bits_bt _ 25 (by omega) i hi, shl1_bt (by omega) hi]
    show _ = (decide (i < 25) && (frB B p i && !decide (i = g)))
    rw [Bool.and_assoc]
/-- the goal is found -/
theorem C_fewest {h : rb_H} {B : sBd} {p g n : Nat} (hK : WK h B p) (hpl : bP B p < 25) (hg : g < 25) (hn : n ≤ 16) (hl : Lv (goB B p) (frB B p) g n (bP B p) = true) : ∃ h', fW_fewestTo (nI g) h = some (nI n, h') ∧ CL h' B p g n ∧ Ag [29] h h' := by
  obtain ⟨c0, f0, A0⟩ := C_level0 hK hg
  obtain ⟨f, g0, g1, g2⟩ := Lv_path hpl hl
  unfold fW_fewestTo fW_fewestTo_0
  rw [f0]
  have main : ∃ x, rb_iter rb_fuel (fun s => fW_fewestTo_25b s.1 s.2.1 s.2.2) (bits (fun s => frB B p s && !Sn (goB B p) (frB B p) g 0 s) 25, (0 : Int32), rb_sI h 29 0 (rb_shl 1 (nI g))) = some x ∧ ∃ h', x = Sum.inl (nI n, h') ∧ CL h' B p g n ∧ Ag [29] h h' := by
    refine rb_runP (fun k s => s.1 = bits (fun s => frB B p s && !Sn (goB B p) (frB B p) g k s) 25 ∧ s.2.1 = nI k ∧ CL s.2.2 B p g k ∧ Ag [29] h s.2.2) _ n ⟨rfl, rfl, c0, A0⟩ (by omega) ?_ ?_
    · rintro k ⟨v, w, h1⟩ hk ⟨e1, e2, c, hA⟩
      dsimp only at e1 e2 c hA ⊢
      subst e1
      subst e2
      have m := g1 (n - k) (by omega)
      rw [show n - (n - k) = k by omega] at m
      obtain ⟨h2, z1, z2, z3⟩ := C_level c (by omega) ⟨_, m⟩ (by
        cases e : Lv (goB B p) (frB B p) g k (bP B p) with
        | false => rfl
        | true => have := Lv_one e hl; omega) hpl
      exact ⟨_, z1, rfl, rfl, z2, Ag_trans hA z3⟩
    · rintro ⟨v, w, h1⟩ ⟨e1, e2, c, hA⟩
      dsimp only at e1 e2 c hA ⊢
      subst e1
      subst e2
      have lk := c.2 n (Nat.le_refl n)
      have nz : ¬ bits (Lv (goB B p) (frB B p) g n) 25 = 0 := by
        rw [bits_zero (by omega)]
        intro z
        rw [z _ hpl] at hl
        cases hl
      have hh : fB_holds (bits (Lv (goB B p) (frB B p) g n) 25) (nI (bP B p)) = true := by
        rw [holds_bt _ (by omega), bits_bt _ 25 (by omega) _ (by omega), hl]
        simp [hpl]
      have e1 : (nI n + 1 : Int32) = nI (n + 1) := nI_1 n
      unfold fW_fewestTo_25b
      simp only [e1, if_neg (show ¬ (25 : Int32) ≤ nI (n + 1) from nI_ge (b := 25) (by omega) (by omega)), if_neg (oob_n (show n < 25 by omega) (by omega)), cl_n (show n < 2 ^ 31 by omega), lk, if_neg nz, c.1.1, hh, if_true]
      exact ⟨_, rfl, _, rfl, c, hA⟩
  obtain ⟨x, m1, h', rfl, m2, m3⟩ := main
  rw [m1]
  exact ⟨h', rfl, m2, m3⟩
/-- it is not -/
theorem C_fewest_no {h : rb_H} {B : sBd} {p g : Nat} (hK : WK h B p) (hpl : bP B p < 25) (hg : g < 25) (hl : ∀ n, Lv (goB B p) (frB B p) g n (bP B p) = false) : ∃ h', fW_fewestTo (nI g) h = some (-1, h') ∧ Ag [29] h h' := by
  obtain ⟨c0, f0, A0⟩ := C_level0 hK hg
  unfold fW_fewestTo fW_fewestTo_0
  rw [f0]
  have main : ∃ x, rb_iter rb_fuel (fun s => fW_fewestTo_25b s.1 s.2.1 s.2.2) (bits (fun s => frB B p s && !Sn (goB B p) (frB B p) g 0 s) 25, (0 : Int32), rb_sI h 29 0 (rb_shl 1 (nI g))) = some x ∧ ∃ h', x = Sum.inr h' ∧ Ag [29] h h' := by
    refine rb_loop (fun s => ∃ k, k ≤ 24 ∧ s.1 = bits (fun s => frB B p s && !Sn (goB B p) (frB B p) g k s) 25 ∧ s.2.1 = nI k ∧ CL s.2.2 B p g k ∧ Ag [29] h s.2.2) _ (fun s => 25 - s.2.1.toNatClampNeg) ⟨0, by omega, rfl, rfl, c0, A0⟩ (by dsimp only; omega) ?_
    rintro ⟨v, w, h1⟩ ⟨k, hk, e1, e2, c, hA⟩
    dsimp only at e1 e2 c hA ⊢
    subst e1
    subst e2
    have e1 : (nI k + 1 : Int32) = nI (k + 1) := nI_1 k
    by_cases k24 : k = 24
    · subst k24
      unfold fW_fewestTo_25b
      rw [if_pos (by decide)]
      exact Or.inr ⟨_, rfl, _, rfl, hA⟩
    · by_cases ne : ∃ t, t < 25 ∧ Lv (goB B p) (frB B p) g k t = true
      · obtain ⟨h2, z1, z2, z3⟩ := C_level c (by omega) ne (hl k) hpl
        refine Or.inl ⟨_, z1, ⟨k + 1, by omega, rfl, rfl, z2, Ag_trans hA z3⟩, ?_⟩
        show 25 - (nI (k + 1)).toNatClampNeg < 25 - (nI k).toNatClampNeg
        rw [cl_n (by omega), cl_n (by omega)]
        omega
      · have z : bits (Lv (goB B p) (frB B p) g k) 25 = 0 := by
          rw [bits_zero (by omega)]
          intro t ht
          cases e : Lv (goB B p) (frB B p) g k t with
          | false => rfl
          | true => exact absurd ⟨t, ht, e⟩ ne
        unfold fW_fewestTo_25b
        simp only [e1, if_neg (show ¬ (25 : Int32) ≤ nI (k + 1) from nI_ge (b := 25) (by omega) (by omega)), if_neg (oob_n (show k < 25 by omega) (by omega)), cl_n (show k < 2 ^ 31 by omega), c.2 k (Nat.le_refl k), z, if_true]
        exact Or.inr ⟨_, rfl, _, rfl, hA⟩
  obtain ⟨x, m1, h', rfl, m2⟩ := main
  rw [m1]
  exact ⟨h', rfl, m2⟩
theorem firstOf_n {a : Nat → Bool} (h : fst1 a 25 < 25) : fB_firstOf (bits a 25) = some (nI (fst1 a 25)) := by
  unfold fB_firstOf fB_firstOf_0
  have hb : ∀ k, k < 25 → fB_holds (bits a 25) (nI k) = a k := fun k hk => by
    rw [holds_bt _ (by omega), bits_bt _ 25 (by omega) k (by omega)]
    simp [hk]
  refine rb_runB (fun k => nI k) (fst1 a 25) (.inl (nI (fst1 a 25))) rfl (by omega) (fun k hk => ?_) ?_ rfl
  · unfold fB_firstOf_2b
    rw [if_neg (show ¬ (25 : Int32) ≤ nI k from nI_ge (b := 25) (by omega) (by omega)), hb k (by omega), fst1_no hk, if_neg (by decide), nI_1]
  · unfold fB_firstOf_2b
    rw [if_neg (show ¬ (25 : Int32) ≤ nI (fst1 a 25) from nI_ge (b := 25) h (by omega)), hb _ h, fst1_is h, if_pos rfl]
/-- the next square, the squares to come -/
def hpN (go : Nat → Nat → Bool) (L : Nat → Nat → Bool) (k at_ : Nat) : Nat := fst1 (fun t => go at_ t && L k t) 25
def hpL (go : Nat → Nat → Bool) (L : Nat → Nat → Bool) : Nat → Nat → List Int64
  | 0, _ => []
  | k + 1, a => (nI (hpN go L k a)).toInt64 :: hpL go L k (hpN go L k a)
theorem hpL_len (go : Nat → Nat → Bool) (L : Nat → Nat → Bool) : ∀ k a, (hpL go L k a).length = k
  | 0, _ => rfl
  | k + 1, a => congrArg (· + 1) (hpL_len go L k _)
theorem hpN_ok {go : Nat → Nat → Bool} {fr : Nat → Bool} {g k a : Nat} (hl : Lv go fr g (k + 1) a = true) : hpN go (Lv go fr g) k a < 25 ∧ Lv go fr g k (hpN go (Lv go fr g) k a) = true := by
  rw [Lv_s] at hl
  simp only [Bool.and_eq_true] at hl
  obtain ⟨t, t1, t2, t3⟩ := toB_iff.mp hl.1
  have h1 : hpN go (Lv go fr g) k a < 25 := by
    have := fst1_le (fun t => go a t && Lv go fr g k t) 25
    rcases Nat.lt_or_ge (hpN go (Lv go fr g) k a) 25 with q | q
    · exact q
    · have e : fst1 (fun t => go a t && Lv go fr g k t) 25 = 25 := by unfold hpN at q; omega
      have := fst1_none.mp e t t1
      simp [t2, t3] at this
  refine ⟨h1, ?_⟩
  have := fst1_is (p := fun t => go a t && Lv go fr g k t) h1
  simp only [Bool.and_eq_true] at this
  exact this.2
theorem C_tellHops {h : rb_H} {B : sBd} {p g n : Nat} (hC : CL h B p g n) (hpl : bP B p < 25) (hn : n ≤ 16) (hl : Lv (goB B p) (frB B p) g n (bP B p) = true) (hR : RWc h []) : ∃ h', fW_tellFewest (nI n) h = some h' ∧ RWc h' (hpL (goB B p) (Lv (goB B p) (frB B p) g) n (bP B p)) ∧ Ag [3, 4] h h' := by
  unfold fW_tellFewest fW_tellFewest_0
  have main : ∃ x, rb_iter rb_fuel (fun s => fW_tellFewest_10b s.1 s.2.1 s.2.2) (rb_hF h 27 6, nI n - 1, h) = some x ∧ (RWc x (hpL (goB B p) (Lv (goB B p) (frB B p) g) n (bP B p)) ∧ Ag [3, 4] h x) := by
    refine rb_runP (fun i s => ∃ a R, a < 25 ∧ Lv (goB B p) (frB B p) g (n - i) a = true ∧ s.1 = nI a ∧ s.2.1 = nI (n - i) - 1 ∧ RWc s.2.2 R ∧ R ++ hpL (goB B p) (Lv (goB B p) (frB B p) g) (n - i) a = hpL (goB B p) (Lv (goB B p) (frB B p) g) n (bP B p) ∧ Ag [3, 4] h s.2.2) _ n ⟨bP B p, [], hpl, hl, hC.1.1, rfl, hR, rfl, Ag_refl _ _⟩ (by omega) ?_ ?_
    · rintro i ⟨v, w, h1⟩ hi ⟨a, R, ha, la, e1, e2, hRW, hrest, hA⟩
      dsimp only at e1 e2 hRW hA ⊢
      subst e1
      obtain ⟨m, hm⟩ : ∃ m, n - i = m + 1 := ⟨n - i - 1, by omega⟩
      rw [hm] at la hrest e2
      rw [nI_pred] at e2
      subst e2
      obtain ⟨n1, n2⟩ := hpN_ok la
      have r1 : rb_hI h1 28 a = bits (goB B p a) 25 := (AgI hA (by decide) a).trans (hC.1.2.2 a ha)
      have r2 : rb_hI h1 29 m = bits (Lv (goB B p) (frB B p) g m) 25 := (AgI hA (by decide) m).trans (hC.2 m (by omega))
      have hlen : R.length + (m + 1) = n := by
        have := congrArg List.length hrest
        rw [List.length_append, hpL_len, hpL_len] at this
        exact this
      obtain ⟨h2, z1, z2, z3⟩ := C_add hRW (by omega) (nI (hpN (goB B p) (Lv (goB B p) (frB B p) g) m a)).toInt64
      have ff : fB_firstOf (bits (fun t => goB B p a t && Lv (goB B p) (frB B p) g m t) 25) = some (nI (hpN (goB B p) (Lv (goB B p) (frB B p) g) m a)) := firstOf_n n1
      unfold fW_tellFewest_10b
      rw [if_neg (nI_pos (by omega)), B_isSquare_y ha, if_pos rfl, if_neg (oob_n ha (by omega)), if_neg (oob_n (show m < 25 by omega) (by omega)), cl_n (by omega), cl_n (by omega), r1, r2, and_bits _ _ (by omega), ff]
      simp only [Option.bind_some, z1]
      refine ⟨_, rfl, hpN (goB B p) (Lv (goB B p) (frB B p) g) m a, _, n1, ?_, rfl, ?_, z2, ?_, Ag_trans hA z3⟩
      · rw [show n - (i + 1) = m by omega]; exact n2
      · rw [show n - (i + 1) = m by omega]
        exact (Int32.sub_eq_add_neg _ _).symm
      · rw [show n - (i + 1) = m by omega, List.append_assoc]
        exact hrest
    · rintro ⟨v, w, h1⟩ ⟨a, R, ha, la, e1, e2, hRW, hrest, hA⟩
      dsimp only at e1 e2 hRW hA ⊢
      rw [Nat.sub_self] at e2 hrest
      subst e2
      unfold fW_tellFewest_10b
      rw [if_pos (by decide)]
      refine ⟨_, rfl, ?_, hA⟩
      rw [← hrest]
      show RWc h1 (R ++ [])
      rw [List.append_nil]
      exact hRW
  obtain ⟨x, m1, m2, m3⟩ := main
  rw [m1]
  exact ⟨x, rfl, m2, m3⟩
