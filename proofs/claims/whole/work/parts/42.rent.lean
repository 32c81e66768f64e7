/-! rent -/
theorem ct_one (a : Nat) : ∀ m, fb_ct (fun s => decide (s = a)) m = if a < m then 1 else 0
  | 0 => by simp [fb_ct]
  | m + 1 => by
    rw [fb_ct_succ, ct_one a m]
    by_cases h : m = a
    · subst h; simp
    · have : (a < m + 1) ↔ a < m := by omega
      simp [h, this]
theorem ct_img {P : Nat → Nat} {c : Nat → Bool} {m : Nat} : ∀ n, (∀ i j, i < n → j < n → c i = true → c j = true → P i = P j → i = j) → (∀ i, i < n → c i = true → P i < m) → fb_ct (fun s => (List.range n).any fun i => c i && decide (P i = s)) m = fb_ct c n
  | 0, _, _ => by
    exact fb_ct_zero.mpr (fun k _ => rfl)
  | n + 1, h1, h2 => by
    have ih := ct_img (P := P) (c := c) (m := m) n (fun i j hi hj => h1 i j (by omega) (by omega)) (fun i hi => h2 i (by omega))
    rw [fb_ct_succ, ← ih]
    have e : ∀ s, s < m → ((List.range (n + 1)).any fun i => c i && decide (P i = s)) = (((List.range n).any fun i => c i && decide (P i = s)) || (c n && decide (s = P n))) := by
      intro s _
      rw [List.range_succ, List.any_append]
      simp only [List.any_cons, List.any_nil, Bool.or_false]
      have : decide (P n = s) = decide (s = P n) := by simp [eq_comm]
      rw [this]
    rw [fb_ct_cong e]
    cases hc : c n
    · simp
    · rw [fb_ct_or]
      · simp only [Bool.true_and, if_true]
        rw [ct_one, if_pos (h2 n (by omega) hc)]
      · intro s hs ⟨q1, q2⟩
        simp only [List.any_eq_true, List.mem_range, Bool.and_eq_true, decide_eq_true_eq, Bool.true_and] at q1 q2
        obtain ⟨i, hi, hci, hPi⟩ := q1
        have := h1 i n (by omega) (by omega) hci hc (by rw [hPi, q2])
        omega
/-- d of a square -/
def dN (s : Nat) : Nat := max ((s % 5 - 2) + (2 - s % 5)) ((s / 5 - 2) + (2 - s / 5))
theorem farOf_n : ∀ s, s < 25 → fM_farOf (nI s) = nI (dN s) ∧ dN s ≤ 2 := by
  unfold fM_farOf fM_farOf_0 rb_rem rb_abs rb_max; decide +kernel
theorem fromMiddle_n {s : Nat} (hs : s < 25) (h : rb_H) : fB_fromMiddle (nI s) h = some (nI (dN s)) := by
  have tbl : ∀ s, s < 25 → rb_sv 0 s = nI (dN s) := by decide +kernel
  unfold fB_fromMiddle fB_fromMiddle_0
  rw [if_neg (nI_pos (by omega)), if_neg (show ¬ (25 : Int32) ≤ nI s from nI_ge (b := 25) hs (by omega)), if_neg (oob_n (show s < 25 from hs) (by omega)), cl_n (by omega), tbl s hs]
theorem beside_n : ∀ s, s < 25 → ∀ t, t < 25 → fM_isBeside (nI t) (nI s) = besN s t := by
  unfold fM_isBeside fM_isBeside_0 rb_rem rb_abs; decide +kernel
/-- how many others are around -/
def nearN (B : sBd) (p s : Nat) : Nat := fb_ct (fun i => decide (i ≠ p) && (decide (bP B i ≠ 25) && besN s (bP B i))) (bN B)
theorem near_bits {B : sBd} (hW : WF B) {p s : Nat} (hs : s < 25) : fJI_bitCount (fB_around (nI s) &&& bits (occ B (fun i => decide (i ≠ p))) 25) = nI (nearN B p s) := by
  have e : ∀ t, t < 32 → bt (fB_around (nI s) &&& bits (occ B (fun i => decide (i ≠ p))) 25) t = ((List.range (bN B)).any fun i => (decide (i ≠ p) && (decide (bP B i ≠ 25) && besN s (bP B i))) && decide (bP B i = t)) := by
    intro t ht
    rw [b_and, around_bt s hs t ht, bits_bt _ 25 (by omega) t ht]
    apply Bool.eq_iff_iff.mpr
    unfold occ
    simp only [Bool.and_eq_true, decide_eq_true_eq, List.any_eq_true, List.mem_range]
    constructor
    · rintro ⟨⟨h1, h2⟩, -, i, hi, h3, h4⟩
      exact ⟨i, hi, ⟨h3, by omega, by rw [h4]; exact h2⟩, h4⟩
    · rintro ⟨i, hi, ⟨h3, h5, h6⟩, h4⟩
      have := (hW.2.2.1 i hi).2.2.1
      exact ⟨⟨by omega, by rw [← h4]; exact h6⟩, by omega, i, hi, h3, h4⟩
  rw [bitCount_eq, fb_ct_cong e]
  congr 1
  refine ct_img (bN B) (fun i j hi hj hi2 _ he => ?_) (fun i hi _ => by have := (hW.2.2.1 i hi).2.2.1; omega)
  simp only [Bool.and_eq_true, decide_eq_true_eq] at hi2
  exact hW.2.2.2 i j hi hj he hi2.2.1
/-- a rule: whether there is none, and what it makes of the things -/
abbrev sRu : Type := Bool × ((Nat → Int32) → Int32)
def clampN (x : Int32) : Nat := if x < 0 then 0 else if 20 < x then 20 else x.toNatClampNeg
theorem clampN_le (x : Int32) : clampN x ≤ 20 := by
  unfold clampN
  split
  · omega
  · rename_i h0
    split
    · omega
    · rename_i h1
      obtain ⟨j, hj, rfl⟩ := nI_of h0
      have : ¬ nI 20 < nI j := h1
      rw [nI_ltI (by omega) hj] at this
      rw [cl_n hj]
      omega
theorem put_20 (x : Int32) : fB_put x 20 = nI (clampN x) := by
  unfold fB_put fB_put_0 clampN
  by_cases h0 : x < 0
  · rw [if_neg (Int32.not_le.mpr h0), if_pos h0]; rfl
  · rw [if_pos (Int32.not_lt.mp h0), if_neg h0]
    by_cases h1 : 20 < x
    · rw [if_neg (Int32.not_le.mpr h1), if_pos h1]; rfl
    · rw [if_pos (Int32.not_lt.mp h1), if_neg h1]
      obtain ⟨j, hj, rfl⟩ := nI_of h0
      rw [cl_n hj]
theorem max_min_20 (x : Int32) : rb_max 0 (rb_min 20 x) = nI (clampN x) := by
  unfold rb_max rb_min clampN
  by_cases h0 : x < 0
  · have : x < 20 := Int32.lt_trans h0 (by decide)
    rw [if_pos this, if_neg (fun z => absurd (Int32.lt_trans z h0) Int32.lt_irrefl), if_pos h0]; rfl
  · rw [if_neg h0]
    by_cases h1 : 20 < x
    · rw [if_neg (fun z => absurd (Int32.lt_trans z h1) Int32.lt_irrefl), if_pos h1, if_pos (by decide)]; rfl
    · rw [if_neg h1]
      obtain ⟨j, hj, rfl⟩ := nI_of h0
      rw [cl_n hj]
      have h1 : ¬ nI 20 < nI j := h1
      rw [nI_ltI (by omega) hj] at h1
      by_cases h2 : nI j < 20
      · rw [if_pos h2]
        by_cases h3 : (0 : Int32) < nI j
        · rw [if_pos h3]
        · rw [if_neg h3]
          have h3 : ¬ nI 0 < nI j := h3
          rw [nI_ltI (by omega) hj] at h3
          have : j = 0 := by omega
          subst this; rfl
      · rw [if_neg h2, if_pos (by decide)]
        have h2 : ¬ nI j < nI 20 := h2
        rw [nI_ltI hj (by omega)] at h2
        have : j = 20 := by omega
        subst this; rfl
/-- the things of a square and a piece -/
def thV (B : sBd) (p s : Nat) (day : Int32) (i : Nat) : Int32 := if i = 0 then nI (s % 5) else if i = 1 then nI (s / 5) else if i = 2 then nI (dN s) else if i = 3 then nI (nearN B p s) else if i = 4 then nI (bK B p) else if i = 5 then nI (bS B p) else rb_rem day 7
/-- the rent -/
def rentN (ρ : sRu) (B : sBd) (p s : Nat) (day : Int32) : Nat := if ρ.1 = true then 3 - dN s else clampN (ρ.2 (thV B p s day))
theorem rentN_le (ρ : sRu) (B : sBd) (p s : Nat) (day : Int32) : rentN ρ B p s day ≤ 20 := by
  unfold rentN
  split
  · omega
  · exact clampN_le _
/-- a Rule holds it -/
def RuC (h : rb_H) (o : Nat) (ρ : sRu) : Prop := (ρ.1 = true → rb_hF h o 5 = 0) ∧ (ρ.1 = false → rb_hF h o 5 ≠ 0 ∧ ∀ (h' : rb_H) (th : Nat → Int32), (∀ i, rb_hI h' (o + 1) i = rb_hI h (o + 1) i) → rb_hF h' o 5 = rb_hF h o 5 → (∀ i, i < 7 → rb_hI h' (o + 5) i = th i) → ∃ h'', fU_worked o h' = some (ρ.2 th, h'') ∧ Ag [o + 2] h' h'')
/-- the model's text of a rule holds it -/
def RuM (h : rb_H) (ρ : sRu) : Prop := (ρ.1 = true → rb_hF h 49 16 ≤ 0) ∧ (ρ.1 = false → ¬ rb_hF h 49 16 ≤ 0 ∧ rb_ty (rb_hR h 1) = 13 ∧ (rb_hR h 1 = 55 ∨ rb_hR h 1 = 56) ∧ ∀ (h' : rb_H) (th : Nat → Int32), rb_hR h' 0 = rb_hR h 1 → (∀ i, rb_hI h' (rb_hR h 1) i = rb_hI h (rb_hR h 1) i) → rb_hF h' 49 9 = rb_hF h 49 16 → rb_hF h' 49 10 = 40 → rb_hF h' 49 11 = 0 → rb_hF h' 49 12 = -1 → rb_hF h' 49 17 = 1 → (∀ i, i < 7 → rb_hI h' 57 i = th i) → ∃ h'', fR_held_product_sum_thing rb_deep 0 (0 : Int32) h' = some (ρ.2 th, h'') ∧ Ag [1011, 1012] h' h'')
section
variable {h : rb_H} {o a ru : Nat} {B : sBd} {ρ : sRu}
theorem nI_3sub {d : Nat} (hd : d ≤ 2) : (3 : Int32) - nI d = nI (3 - d) := by
  rcases (show d = 0 ∨ d = 1 ∨ d = 2 by omega) with rfl | rfl | rfl <;> decide
theorem S_rentAt (hR : RS h o B) (hW : WF B) (hU : RuC h ru ρ) {p s : Nat} (hp : p < bN B) (hs : s < 25) (hd : ru ≠ 49) (day : Int32) : ∃ h', fS_rentAt o ru (nI p) (nI s) day h = some (nI (rentN ρ B p s day), h') ∧ Ag [ru + 2, ru + 5] h h' := by
  have h8 := hW.1
  unfold fS_rentAt fS_rentAt_0
  simp only [rb_lt, S_others hR hW (show p < 100 by omega), Option.bind_some, near_bits hW hs, if_neg (oob_n (show p < 8 by omega) (by omega)), cl_n (show p < 2 ^ 31 by omega), (hR.2.2.2.2 p hp).1, (hR.2.2.2.2 p hp).2.1]
  unfold fU_rentOf fU_rentOf_0
  cases hρ : ρ.1
  · obtain ⟨u1, u2⟩ := hU.2 hρ
    have r5 : nI s / 5 = nI (s / 5) := by
      have : ∀ s, s < 25 → nI s / 5 = nI (s / 5) := by decide +kernel
      exact this s hs
    have r6 : rb_rem (nI s) 5 = nI (s % 5) := by
      have : ∀ s, s < 25 → rb_rem (nI s) 5 = nI (s % 5) := by unfold rb_rem; decide +kernel
      exact this s hs
    simp only [if_neg u1, fromMiddle_n hs, Option.bind_some, r5, r6]
    obtain ⟨h'', q1, q2⟩ := u2 (rb_sI (rb_sI (rb_sI (rb_sI (rb_sI (rb_sI (rb_sI h (ru + 5) 0 (nI (s % 5))) (ru + 5) 1 (nI (s / 5))) (ru + 5) 2 (nI (dN s))) (ru + 5) 3 (nI (nearN B p s))) (ru + 5) 4 (nI (bK B p))) (ru + 5) 5 (nI (bS B p))) (ru + 5) 6 (rb_rem day 7)) (thV B p s day) (fun i => by simp [hI_sI, hI_sJ, hI_sF, hI_sR, hI_cp, hJ_sI, hJ_sJ, hJ_sF, hJ_sR, hJ_cp, hF_sI, hF_sJ, hF_sF, hF_sR, hF_cp, hR_sI, hR_sJ, hR_sF, hR_sR, hR_cp]) (by simp [hI_sI, hI_sJ, hI_sF, hI_sR, hI_cp, hJ_sI, hJ_sJ, hJ_sF, hJ_sR, hJ_cp, hF_sI, hF_sJ, hF_sF, hF_sR, hF_cp, hR_sI, hR_sJ, hR_sF, hR_sR, hR_cp]) (fun i hi => by
      unfold thV
      rcases (show i = 0 ∨ i = 1 ∨ i = 2 ∨ i = 3 ∨ i = 4 ∨ i = 5 ∨ i = 6 by omega) with rfl | rfl | rfl | rfl | rfl | rfl | rfl <;> simp [hI_sI, hI_sJ, hI_sF, hI_sR, hI_cp, hJ_sI, hJ_sJ, hJ_sF, hJ_sR, hJ_cp, hF_sI, hF_sJ, hF_sF, hF_sR, hF_cp, hR_sI, hR_sJ, hR_sF, hR_sR, hR_cp])
    rw [q1]
    simp only [Option.bind_some, rb_lt, put_20]
    refine ⟨h'', ?_, ?_⟩
    · unfold rentN
      rw [hρ, if_neg (by decide)]
    · have m : ru + 5 ∈ [ru + 2, ru + 5] := by simp
      refine Ag_trans ?_ (Ag_mono (by simp) q2)
      exact Ag_sI m (Ag_sI m (Ag_sI m (Ag_sI m (Ag_sI m (Ag_sI m (Ag_sI m (Ag_refl _ _)))))))
  · simp only [if_pos (hU.1 hρ), fromMiddle_n hs, Option.bind_some, nI_3sub (farOf_n s hs).2]
    refine ⟨h, ?_, Ag_refl _ _⟩
    unfold rentN
    rw [hρ, if_pos rfl]
theorem M_near (hR : RM h a B) (hW : WF B) {p s : Nat} (hp : p < bN B) (hs : s < 25) : rb_iter rb_fuel (fun x => fM_rentOf_21b a (nI p) (nI s) x.1 x.2 h) ((0 : Int32), (0 : Int32)) = some (nI (nearN B p s)) := by
  have h8 := hW.1
  refine rb_run' (fun k => (nI (fb_ct (fun i => decide (i ≠ p) && (decide (bP B i ≠ 25) && besN s (bP B i))) k), nI k)) (bN B) rfl (by omega) (fun k hk => ?_) ?_
  · have hw := hW.2.2.1 k hk
    show fM_rentOf_21b a (nI p) (nI s) _ (nI k) h = _
    unfold fM_rentOf_21b fM_rentOf_65l21 fM_rentOf_66l21
    have ek : nI k = nI p ↔ k = p := nI_eq (by omega) (by omega)
    simp only [hR.1, if_neg (nI_ge hk (show bN B < 2 ^ 31 by omega)), ek, M_isOut hR hW hk, Option.bind_some, nI8, cl_n (show 8 + k < 2 ^ 31 by omega), if_neg (oob_n (show 8 + k < 27 by omega) (by omega)), (hR.2.2.2.2 k hk).2.2.1, nI_1, i0, fb_ct_succ]
    by_cases e : k = p
    · simp [e]
    · by_cases e2 : bP B k = 25
      · simp [e, e2]
      · rw [beside_n s hs (bP B k) (by omega)]
        cases hb : besN s (bP B k) <;> simp [e, e2, hb, nI_1]
  · show fM_rentOf_21b a (nI p) (nI s) _ (nI (bN B)) h = _
    unfold fM_rentOf_21b
    rw [hR.1, if_pos (nI_le (Nat.le_refl _) (by omega))]
    rfl
theorem M_rentOf (hR : RM h a B) (hW : WF B) (hU : RuM h ρ) {p s : Nat} (hp : p < bN B) (hs : s < 25) (ha : a ≠ 57) (ha5 : a ≠ 55) (ha6 : a ≠ 56) : ∃ h', fM_rentOf a (nI p) (nI s) h = some (nI (rentN ρ B p s (bQ B)), h') ∧ Ag [57, 1009, 1010, 1011, 1012, 1017, 2000] h h' := by
  have h8 := hW.1
  unfold fM_rentOf fM_rentOf_0
  simp only [rb_lt, (farOf_n s hs).1, M_near hR hW hp hs, Option.bind_some]
  unfold fM_rentOf_177
  cases hρ : ρ.1
  · obtain ⟨u1, u2, u3, u4⟩ := hU.2 hρ
    have r5 : nI s / 5 = nI (s / 5) := by
      have : ∀ s, s < 25 → nI s / 5 = nI (s / 5) := by decide +kernel
      exact this s hs
    have r6 : rb_rem (nI s) 5 = nI (s % 5) := by
      have : ∀ s, s < 25 → rb_rem (nI s) 5 = nI (s % 5) := by unfold rb_rem; decide +kernel
      exact this s hs
    have ha' : ¬ a = 57 := ha
    have k1 : ¬ (51 : Nat) = 57 := by decide
    simp only [if_neg u1, if_neg (oob_n (show p < 8 by omega) (by omega)), if_neg (oob_n (show p < 27 by omega) (by omega)), cl_n (show p < 2 ^ 31 by omega), r5, r6, hI_sI, hI_sJ, hI_sF, hI_sR, hI_cp, hJ_sI, hJ_sJ, hJ_sF, hJ_sR, hJ_cp, hF_sI, hF_sJ, hF_sF, hF_sR, hF_cp, hR_sI, hR_sJ, hR_sF, hR_sR, hR_cp, ha', k1, false_and, if_false, (hR.2.2.2.2 p hp).1, (hR.2.2.2.2 p hp).2.1, hR.2.2.1, u2, if_true]
    generalize hg : rb_sI (rb_sI (rb_sI (rb_sI (rb_sI (rb_sI (rb_sI h 57 0 (nI (s % 5))) 57 1 (nI (s / 5))) 57 2 (nI (dN s))) 57 3 (nI (nearN B p s))) 57 4 (nI (bK B p))) 57 5 (nI (bS B p))) 57 6 (rb_rem (bQ B) 7) = g
    have A1 : Ag [57, 1009, 1010, 1011, 1012, 1017, 2000] h g := by
      have m : 57 ∈ [57, 1009, 1010, 1011, 1012, 1017, 2000] := by decide
      rw [← hg]
      exact Ag_sI m (Ag_sI m (Ag_sI m (Ag_sI m (Ag_sI m (Ag_sI m (Ag_sI m (Ag_refl _ _)))))))
    have T : ∀ i, i < 7 → rb_hI g 57 i = thV B p s (bQ B) i := fun i hi => by
      rw [← hg]
      unfold thV
      rcases (show i = 0 ∨ i = 1 ∨ i = 2 ∨ i = 3 ∨ i = 4 ∨ i = 5 ∨ i = 6 by omega) with rfl | rfl | rfl | rfl | rfl | rfl | rfl <;> simp [hI_sI, hI_sJ, hI_sF, hI_sR, hI_cp, hJ_sI, hJ_sJ, hJ_sF, hJ_sR, hJ_cp, hF_sI, hF_sJ, hF_sF, hF_sR, hF_cp, hR_sI, hR_sJ, hR_sF, hR_sR, hR_cp]
    have hr : rb_hR h 1 ≠ 57 := by rcases u3 with z | z <;> rw [z] <;> decide
    have gI : ∀ i, rb_hI g (rb_hR h 1) i = rb_hI h (rb_hR h 1) i := fun i => AgI A1 (by rcases u3 with z | z <;> rw [z] <;> decide) i
    unfold fM_begin fM_begin_0
    generalize hg2 : rb_sF (rb_sF (rb_sF (rb_sF (rb_sF (rb_sR g 0 (rb_hR h 1)) 49 9 (rb_hF h 49 16)) 49 10 40) 49 11 0) 49 12 (-1)) 49 17 1 = g2
    have A2 : Ag [57, 1009, 1010, 1011, 1012, 1017, 2000] h g2 := by
      rw [← hg2]
      exact Ag_sF (by decide) (Ag_sF (by decide) (Ag_sF (by decide) (Ag_sF (by decide) (Ag_sF (by decide) (Ag_sR (by decide) A1)))))
    obtain ⟨h'', q1, q2⟩ := u4 g2 (thV B p s (bQ B)) (by rw [← hg2]; simp [hI_sI, hI_sJ, hI_sF, hI_sR, hI_cp, hJ_sI, hJ_sJ, hJ_sF, hJ_sR, hJ_cp, hF_sI, hF_sJ, hF_sF, hF_sR, hF_cp, hR_sI, hR_sJ, hR_sF, hR_sR, hR_cp]) (fun i => by rw [← hg2]; simp [hI_sI, hI_sJ, hI_sF, hI_sR, hI_cp, hJ_sI, hJ_sJ, hJ_sF, hJ_sR, hJ_cp, hF_sI, hF_sJ, hF_sF, hF_sR, hF_cp, hR_sI, hR_sJ, hR_sF, hR_sR, hR_cp, gI]) (by rw [← hg2]; simp [hI_sI, hI_sJ, hI_sF, hI_sR, hI_cp, hJ_sI, hJ_sJ, hJ_sF, hJ_sR, hJ_cp, hF_sI, hF_sJ, hF_sF, hF_sR, hF_cp, hR_sI, hR_sJ, hR_sF, hR_sR, hR_cp]) (by rw [← hg2]; simp [hI_sI, hI_sJ, hI_sF, hI_sR, hI_cp, hJ_sI, hJ_sJ, hJ_sF, hJ_sR, hJ_cp, hF_sI, hF_sJ, hF_sF, hF_sR, hF_cp, hR_sI, hR_sJ, hR_sF, hR_sR, hR_cp]) (by rw [← hg2]; simp [hI_sI, hI_sJ, hI_sF, hI_sR, hI_cp, hJ_sI, hJ_sJ, hJ_sF, hJ_sR, hJ_cp, hF_sI, hF_sJ, hF_sF, hF_sR, hF_cp, hR_sI, hR_sJ, hR_sF, hR_sR, hR_cp]) (by rw [← hg2]; simp [hI_sI, hI_sJ, hI_sF, hI_sR, hI_cp, hJ_sI, hJ_sJ, hJ_sF, hJ_sR, hJ_cp, hF_sI, hF_sJ, hF_sF, hF_sR, hF_cp, hR_sI, hR_sJ, hR_sF, hR_sR, hR_cp]) (by rw [← hg2]; simp [hI_sI, hI_sJ, hI_sF, hI_sR, hI_cp, hJ_sI, hJ_sJ, hJ_sF, hJ_sR, hJ_cp, hF_sI, hF_sJ, hF_sF, hF_sR, hF_cp, hR_sI, hR_sJ, hR_sF, hR_sR, hR_cp]) (fun i hi => by rw [← hg2]; simp [hI_sI, hI_sJ, hI_sF, hI_sR, hI_cp, hJ_sI, hJ_sJ, hJ_sF, hJ_sR, hJ_cp, hF_sI, hF_sJ, hF_sF, hF_sR, hF_cp, hR_sI, hR_sJ, hR_sF, hR_sR, hR_cp, T i hi])
    rw [q1]
    simp only [Option.bind_some, max_min_20]
    refine ⟨rb_sF h'' 49 17 0, ?_, Ag_sF (by decide) (Ag_trans A2 (Ag_mono (by decide) q2))⟩
    unfold rentN
    rw [hρ, if_neg (by decide)]
  · simp only [if_pos (hU.1 hρ), nI_3sub (farOf_n s hs).2, max_min_20]
    refine ⟨h, ?_, Ag_refl _ _⟩
    unfold rentN
    rw [hρ, if_pos rfl]
    have : clampN (nI (3 - dN s)) = 3 - dN s := by
      have : ∀ d, d < 4 → clampN (nI d) = d := by decide
      exact this _ (by omega)
    rw [this]
end
