/-- rents to come -/
def rD (ρ : sRu) (B : sBd) (p d t : Nat) : Nat := rentN ρ B p t (bQ B + nI d)
theorem rD_le (ρ : sRu) (B : sBd) (p d t : Nat) : rD ρ B p d t ≤ 20 := rentN_le _ _ _ _ _
theorem cdB_self {B : sBd} {p : Nat} : ∀ s, s < 25 → cdB B p s s = true := fun s _ => by unfold cdB; simp
def wC : List Nat := [7, 10] ++ List.range' 33 6 ++ List.range' 40 7
/-- the class's rows for the days from d on -/
def CRw (h : rb_H) (r : Nat → Nat → Nat) (c : Nat → Nat → Bool) (n d : Nat) : Prop := (∀ j, d ≤ j → j < n → ∀ t, t < 25 → rb_hI h (33 + j) t = nI (r j t)) ∧ ∀ j, d ≤ j → j ≤ n → ∀ t, t < 25 → rb_hI h (40 + j) t = nI (wr r c (n - j) j t)
theorem C_day {h : rb_H} {B : sBd} {ρ : sRu} (hR : RS h 94 B) (hW : WF B) (hU : RuC h 5 ρ) {p n d : Nat} (hp : p < bN B) (hK : WK h B p) (hd : d < n) (hn : n ≤ 6) (hC : CRw h (rD ρ B p) (cdB B p) n (d + 1)) : ∃ h', fW_leastRents_17b 94 5 (nI p) (nI d) h = some (.inl (nI d + (-1), h')) ∧ CRw h' (rD ρ B p) (cdB B p) n d ∧ Ag wC h h' := by
  have hd6 : d < 6 := by omega
  have a : ∃ x, rb_iter rb_fuel (fun z => fW_leastRents_25b 94 5 (nI p) (nI d) z.1 z.2) ((0 : Int32), h) = some x ∧ (Ag ((33 + d) :: [7, 10]) h x ∧ ∀ t, t < 25 → rb_hI x (33 + d) t = nI (rD ρ B p d t)) := by
    refine rb_runP (fun k z => z.1 = nI k ∧ Ag ((33 + d) :: [7, 10]) h z.2 ∧ ∀ t, t < k → rb_hI z.2 (33 + d) t = nI (rD ρ B p d t)) _ 25 ⟨rfl, Ag_refl _ _, fun t ht => absurd ht (Nat.not_lt_zero _)⟩ (by omega) ?_ ?_
    · rintro k ⟨w, h1⟩ hk ⟨e, hA, hI⟩
      dsimp only at e hA hI ⊢
      subst e
      have na : ∀ x, (x = 5 ∨ x = 6 ∨ x = 94 ∨ x = 95 ∨ x = 96 ∨ x = 97 ∨ x = 98) → x ∉ ((33 + d) :: [7, 10]) := fun x hx => by
        simp only [List.mem_cons, List.not_mem_nil, or_false]; omega
      have R1 : RS h1 94 B := RS_ag hR hA (by decide) (fun x hx => na x (by unfold sIds at hx; simp only [List.mem_cons, List.not_mem_nil, or_false] at hx; omega))
      have U1 : RuC h1 5 ρ := RuC_ag hU hA (by decide) ⟨na 5 (by omega), na 6 (by omega)⟩
      obtain ⟨h2, d1, d2⟩ := S_rentAt R1 hW U1 hp hk (by decide) (bQ B + nI d)
      unfold fW_leastRents_25b
      rw [if_neg (show ¬ (25 : Int32) ≤ nI k from nI_ge (b := 25) hk (by omega)), if_neg (oob_n hd6 (by omega)), cl_n (show d < 2 ^ 31 by omega), R1.2.2.1, d1]
      simp only [Option.bind_some, if_neg (oob_n hk (by omega)), cl_n (show k < 2 ^ 31 by omega), ra32 _ hd6, nI_1]
      refine ⟨_, rfl, rfl, Ag_sI (by simp) (Ag_trans hA (Ag_mono (fun x hx => List.mem_cons_of_mem _ hx) d2)), fun t ht => ?_⟩
      rw [hI_sI]
      by_cases e : t = k
      · rw [if_pos ⟨rfl, e⟩, e]; rfl
      · rw [if_neg (fun z => e z.2), AgI d2 (by simp only [List.mem_cons, List.not_mem_nil, or_false]; omega)]
        exact hI t (by omega)
    · rintro ⟨w, h1⟩ ⟨e, hA, hI⟩
      dsimp only at e hA hI ⊢
      subst e
      unfold fW_leastRents_25b
      rw [if_pos (by decide)]
      exact ⟨_, rfl, hA, hI⟩
  obtain ⟨x, m1, m2, m3⟩ := a
  have nx : ∀ y, y ≠ 33 + d → y ≠ 7 → y ≠ 10 → y ∉ ((33 + d) :: [7, 10]) := fun y a b c => by simp only [List.mem_cons, List.not_mem_nil, or_false]; omega
  have K1 : WK x B p := ⟨(AgF (a := 27) (i := 6) m2 (nx 27 (by omega) (by decide) (by decide))).trans hK.1, (AgF (a := 27) (i := 7) m2 (nx 27 (by omega) (by decide) (by decide))).trans hK.2.1, fun f hf => (AgI m2 (nx 28 (by omega) (by decide) (by decide)) f).trans (hK.2.2 f hf)⟩
  obtain ⟨q1, q2⟩ := hC
  have rest1 : ∀ t, t < 25 → rb_hI x (40 + (d + 1)) t = nI (wr (rD ρ B p) (cdB B p) (n - (d + 1)) (d + 1) t) := fun t ht => (AgI m2 (nx _ (by omega) (by omega) (by omega)) t).trans (q2 (d + 1) (Nat.le_refl _) (by omega) t ht)
  have b : ∃ y, rb_iter rb_fuel (fun z => fW_leastRents_66b 94 5 (nI p) (nI d) z.1 z.2) ((0 : Int32), x) = some y ∧ (Ag [40 + d] x y ∧ ∀ t, t < 25 → rb_hI y (40 + d) t = nI (wr (rD ρ B p) (cdB B p) (n - d) d t)) := by
    refine rb_runP (fun k z => z.1 = nI k ∧ Ag [40 + d] x z.2 ∧ ∀ t, t < k → rb_hI z.2 (40 + d) t = nI (wr (rD ρ B p) (cdB B p) (n - d) d t)) _ 25 ⟨rfl, Ag_refl _ _, fun t ht => absurd ht (Nat.not_lt_zero _)⟩ (by omega) ?_ ?_
    · rintro k ⟨w, h1⟩ hk ⟨e, hA, hI⟩
      dsimp only at e hA hI ⊢
      subst e
      have K2 : WK h1 B p := ⟨(AgF (a := 27) (i := 6) hA (show 27 ∉ [40 + d] by simp only [List.mem_cons, List.not_mem_nil, or_false]; omega)).trans K1.1, (AgF (a := 27) (i := 7) hA (show 27 ∉ [40 + d] by simp only [List.mem_cons, List.not_mem_nil, or_false]; omega)).trans K1.2.1, fun f hf => (AgI hA (show 28 ∉ [40 + d] by simp only [List.mem_cons, List.not_mem_nil, or_false]; omega) f).trans (K1.2.2 f hf)⟩
      have r1 : ∀ t, t < 25 → rb_hI h1 (33 + d) t = nI (rD ρ B p d t) := fun t ht => (AgI hA (show 33 + d ∉ [40 + d] by simp only [List.mem_cons, List.not_mem_nil, or_false]; omega) t).trans (m3 t ht)
      have r2 : ∀ t, t < 25 → rb_hI h1 (40 + (d + 1)) t = nI (wr (rD ρ B p) (cdB B p) (n - (d + 1)) (d + 1) t) := fun t ht => (AgI hA (show 40 + (d + 1) ∉ [40 + d] by simp only [List.mem_cons, List.not_mem_nil, or_false]; omega) t).trans (rest1 t ht)
      have bf := C_bestFrom K2 (rD_le ρ B p) hd6 hk (show n - (d + 1) < 7 by omega) r1 r2
      obtain ⟨w1, w2, w3⟩ := wN_ok (r := rD ρ B p) (c := cdB B p) (rD_le ρ B p) cdB_self (m := n - (d + 1)) (d := d) (by omega) hk
      rw [show n - (d + 1) + 1 = n - d by omega] at w3
      have e1 : (nI d + 1 : Int32) = nI (d + 1) := nI_1 d
      unfold fW_leastRents_66b
      rw [if_neg (show ¬ (25 : Int32) ≤ nI k from nI_ge (b := 25) hk (by omega)), bf]
      simp only [Option.bind_some, e1, if_neg (oob_n (show d < 7 by omega) (by omega)), if_neg (oob_n hd6 (by omega)), if_neg (oob_n (show d + 1 < 7 by omega) (by omega)), if_neg (oob_n w1 (by omega)), if_neg (oob_n hk (by omega)), cl_n (show d < 2 ^ 31 by omega), cl_n (show d + 1 < 2 ^ 31 by omega), cl_n (show k < 2 ^ 31 by omega), cl_n (show wN (rD ρ B p) (cdB B p) (n - (d + 1)) d k < 2 ^ 31 by omega), ra32 _ hd6, ra39 _ (show d < 7 by omega), ra39 _ (show d + 1 < 7 by omega), r1 _ w1, r2 _ w1, nI_add, w3, nI_1]
      refine ⟨_, rfl, rfl, Ag_sI (by simp) hA, fun t ht => ?_⟩
      rw [hI_sI]
      by_cases e : t = k
      · rw [if_pos ⟨rfl, e⟩, e]
      · rw [if_neg (fun z => e z.2)]; exact hI t (by omega)
    · rintro ⟨w, h1⟩ ⟨e, hA, hI⟩
      dsimp only at e hA hI ⊢
      subst e
      unfold fW_leastRents_66b
      rw [if_pos (by decide)]
      exact ⟨_, rfl, hA, hI⟩
  obtain ⟨y, l1, l2, l3⟩ := b
  unfold fW_leastRents_17b
  rw [if_neg (nI_pos (by omega)), m1]
  simp only [Option.bind_some, l1]
  refine ⟨y, rfl, ⟨fun j h1 h2 t ht => ?_, fun j h1 h2 t ht => ?_⟩, Ag_trans (Ag_mono (fun z hz => ?_) m2) (Ag_mono (fun z hz => ?_) l2)⟩
  · rw [AgI l2 (show 33 + j ∉ [40 + d] by simp only [List.mem_cons, List.not_mem_nil, or_false]; omega)]
    by_cases e : j = d
    · subst e; exact m3 t ht
    · rw [AgI m2 (nx _ (by omega) (by omega) (by omega))]
      exact q1 j (by omega) h2 t ht
  · by_cases e : j = d
    · subst e; exact l3 t ht
    · rw [AgI l2 (show 40 + j ∉ [40 + d] by simp only [List.mem_cons, List.not_mem_nil, or_false]; omega), AgI m2 (nx _ (by omega) (by omega) (by omega))]
      exact q2 j (by omega) h2 t ht
  · unfold wC
    simp only [List.mem_cons, List.not_mem_nil, or_false, List.mem_append, List.mem_range'_1] at hz ⊢
    omega
  · unfold wC
    simp only [List.mem_cons, List.not_mem_nil, or_false, List.mem_append, List.mem_range'_1] at hz ⊢
    omega
theorem C_least {h : rb_H} {B : sBd} {ρ : sRu} (hR : RS h 94 B) (hW : WF B) (hU : RuC h 5 ρ) {p n : Nat} (hp : p < bN B) (hpl : bP B p < 25) (hK : WK h B p) (hn1 : 1 ≤ n) (hn : n ≤ 6) : ∃ h', fW_leastRents 94 5 (nI p) (nI n) h = some (nI (wr (rD ρ B p) (cdB B p) n 0 (bP B p)), h') ∧ WK h' B p ∧ CRw h' (rD ρ B p) (cdB B p) n 0 ∧ Ag wC h h' := by
  obtain ⟨h1, f1, f2, f3⟩ := C_fill (h := h) (o := 40 + n) (n := 25) (by
    have : ∀ n, n < 7 → rb_len (40 + n) = 25 := by decide +kernel
    exact this n (by omega)) (by omega) 0
  have A1 : Ag wC h h1 := Ag_mono (fun z hz => by
    unfold wC
    simp only [List.mem_cons, List.not_mem_nil, or_false, List.mem_append, List.mem_range'_1] at hz ⊢
    omega) f3
  unfold fW_leastRents fW_leastRents_0
  rw [if_neg (oob_n (show n < 7 by omega) (by omega)), cl_n (by omega), ra39 _ (show n < 7 by omega), f1]
  simp only [Option.bind_some]
  have main : ∃ x, rb_iter rb_fuel (fun z => fW_leastRents_17b 94 5 (nI p) z.1 z.2) (nI n - 1, h1) = some x ∧ (Ag wC h x ∧ CRw x (rD ρ B p) (cdB B p) n 0) := by
    refine rb_runP (fun k z => z.1 = nI (n - k) - 1 ∧ Ag wC h z.2 ∧ CRw z.2 (rD ρ B p) (cdB B p) n (n - k)) _ n ⟨rfl, A1, fun j a b => by omega, fun j a b t ht => ?_⟩ (by omega) ?_ ?_
    · have : j = n := by omega
      subst this
      rw [f2 t ht, Nat.sub_self]
      rfl
    · rintro k ⟨w, h2⟩ hk ⟨e, hA, hC⟩
      dsimp only at e hA hC ⊢
      obtain ⟨d, hd⟩ : ∃ d, n - k = d + 1 := ⟨n - k - 1, by omega⟩
      rw [hd] at e hC
      rw [nI_pred] at e
      subst e
      obtain ⟨h3, z1, z2, z3⟩ := C_day (RSn_ag hR hA (by decide)) hW (RuCn_ag hU hA (by decide)) hp (WK_ag hK hA (by decide)) (show d < n by omega) hn hC
      refine ⟨_, z1, ?_, Ag_trans hA z3, ?_⟩
      · rw [show n - (k + 1) = d by omega]
        exact (Int32.sub_eq_add_neg _ _).symm
      · rw [show n - (k + 1) = d by omega]
        exact z2
    · rintro ⟨w, h2⟩ ⟨e, hA, hC⟩
      dsimp only at e hA hC ⊢
      rw [Nat.sub_self] at e hC
      subst e
      unfold fW_leastRents_17b
      rw [if_pos (by decide)]
      exact ⟨_, rfl, hA, hC⟩
  obtain ⟨x, m1, m2, m3⟩ := main
  have K := WK_ag hK m2 (by decide)
  have e0 : rb_hI x 40 (bP B p) = nI (wr (rD ρ B p) (cdB B p) n 0 (bP B p)) := m3.2 0 (Nat.le_refl _) (Nat.zero_le _) _ hpl
  rw [m1]
  simp only [Option.bind_some, K.1, if_neg (oob_n hpl (by omega)), cl_n (show bP B p < 2 ^ 31 by omega), e0]
  exact ⟨x, rfl, K, m3, m2⟩
theorem C_tellLeast {h : rb_H} {B : sBd} {ρ : sRu} {p n : Nat} (hpl : bP B p < 25) (hK : WK h B p) (hn : n ≤ 6) (hC : CRw h (rD ρ B p) (cdB B p) n 0) (hRW : RWc h []) : ∃ h', fW_tellLeastRents (nI n) h = some h' ∧ RWc h' (wL (rD ρ B p) (cdB B p) n 0 (bP B p)) ∧ Ag [3, 4] h h' := by
  unfold fW_tellLeastRents fW_tellLeastRents_0
  have main : ∃ x, rb_iter rb_fuel (fun z => fW_tellLeastRents_8b (nI n) z.1 z.2.1 z.2.2) (rb_hF h 27 6, (0 : Int32), h) = some x ∧ (RWc x (wL (rD ρ B p) (cdB B p) n 0 (bP B p)) ∧ Ag [3, 4] h x) := by
    refine rb_runP (fun k z => z.2.1 = nI k ∧ ∃ a R, a < 25 ∧ z.1 = nI a ∧ RWc z.2.2 R ∧ R ++ wL (rD ρ B p) (cdB B p) (n - k) k a = wL (rD ρ B p) (cdB B p) n 0 (bP B p) ∧ Ag [3, 4] h z.2.2) _ n ⟨rfl, bP B p, [], hpl, hK.1, hRW, rfl, Ag_refl _ _⟩ (by omega) ?_ ?_
    · rintro k ⟨v, w, h1⟩ hk ⟨e, a, R, ha, e1, hRW, hrest, hA⟩
      dsimp only at e e1 hRW hA ⊢
      subst e
      subst e1
      obtain ⟨m, hm⟩ : ∃ m, n - k = m + 1 := ⟨n - k - 1, by omega⟩
      rw [hm] at hrest
      obtain ⟨w1, -, -⟩ := wN_ok (r := rD ρ B p) (c := cdB B p) (rD_le ρ B p) cdB_self (m := m) (d := k) (by omega) ha
      have bf := C_bestFrom (WK_ag hK hA (by decide)) (rD_le ρ B p) (show k < 6 by omega) ha (show m < 7 by omega) (fun t ht => (AgI hA (by simp only [List.mem_cons, List.not_mem_nil, or_false]; omega) t).trans (hC.1 k (Nat.zero_le _) hk t ht)) (fun t ht => (AgI hA (by simp only [List.mem_cons, List.not_mem_nil, or_false]; omega) t).trans (by have := hC.2 (k + 1) (Nat.zero_le _) (by omega) t ht; rw [show n - (k + 1) = m by omega] at this; exact this))
      have hlen : R.length + (m + 1) = n := by
        have := congrArg List.length hrest
        rw [List.length_append, wL_len, wL_len] at this
        exact this
      obtain ⟨h2, z1, z2, z3⟩ := C_add hRW (by omega) (nI (wN (rD ρ B p) (cdB B p) m k a)).toInt64
      unfold fW_tellLeastRents_8b
      rw [if_neg (nI_ge hk (by omega)), bf]
      simp only [Option.bind_some, z1, nI_1]
      refine ⟨_, rfl, rfl, _, _, w1, rfl, z2, ?_, Ag_trans hA z3⟩
      rw [show n - (k + 1) = m by omega, List.append_assoc]
      exact hrest
    · rintro ⟨v, w, h1⟩ ⟨e, a, R, ha, e1, hRW, hrest, hA⟩
      dsimp only at e e1 hRW hA ⊢
      subst e
      rw [Nat.sub_self] at hrest
      unfold fW_tellLeastRents_8b
      rw [if_pos (nI_le (Nat.le_refl _) (by omega))]
      refine ⟨_, rfl, ?_, hA⟩
      rw [← hrest]
      show RWc h1 (R ++ [])
      rw [List.append_nil]
      exact hRW
  obtain ⟨x, m1, m2, m3⟩ := main
  rw [m1]
  exact ⟨x, rfl, m2, m3⟩
