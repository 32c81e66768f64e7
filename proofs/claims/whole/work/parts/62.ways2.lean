theorem M_waysIn {h : rb_H} {B : sBd} (hR : RM h 50 B) (hW : WF B) {p to k s : Nat} (hp : p < bN B) (hs : s < 25) (hk : k < 4) (v3 : Int32) (hM : ∀ t, t < 25 → rb_hI h 64 t = nI (Mw B p to k t)) : ∃ x, rb_iter rb_fuel (fun z => fM_ways_109b (nI p) v3 (nI k) (nI s) z.1 z.2) ((0 : Int32), rb_sI h 65 s 0) = some x ∧ (Ag [65] h x ∧ (∀ u, u ≠ s → rb_hI x 65 u = rb_hI h 65 u) ∧ rb_hI x 65 s = nI (Mw B p to (k + 1) s)) := by
  have h8 := hW.1
  have hpow : 25 ^ k ≤ 25 ^ 4 := Nat.pow_le_pow_right (by omega) (by omega)
  refine rb_runP (fun j z => z.1 = nI j ∧ Ag [65] h z.2 ∧ (∀ u, u ≠ s → rb_hI z.2 65 u = rb_hI h 65 u) ∧ rb_hI z.2 65 s = nI (fb_sm (fun t => if (k = 0 ∨ frB B p t = true) ∧ goB B p s t = true then Mw B p to k t else 0) j)) _ 25 ⟨rfl, Ag_sI (by simp) (Ag_refl _ _), fun u hu => by rw [hI_sI, if_neg (fun z => hu z.2)], by rw [hI_sI, if_pos ⟨rfl, rfl⟩]; rfl⟩ (by omega) ?_ ?_
  · rintro j ⟨w, h1⟩ hj ⟨e, hA, hO, hI⟩
    dsimp only at e hA hO hI ⊢
    subst e
    have R1 := RMn_ag hR hA (by decide)
    have hM1 : rb_hI h1 64 j = nI (Mw B p to k j) := (AgI hA (by decide) j).trans (hM j hj)
    have hb := Mw_le B p to k j
    have hb : Mw B p to k j ≤ 390625 := Nat.le_trans hb hpow
    have e0 : nI (Mw B p to k j) ≤ (0 : Int32) ↔ Mw B p to k j = 0 := by
      have : nI (Mw B p to k j) ≤ nI 0 ↔ Mw B p to k j ≤ 0 := nI_leI (by omega) (by omega)
      rw [show (0 : Int32) = nI 0 from rfl, this]
      omega
    have ek : nI k = (0 : Int32) ↔ k = 0 := nI_eq (b := 0) (by omega) (by omega)
    have fin : ∀ b : Nat, b = (if (k = 0 ∨ frB B p j = true) ∧ goB B p s j = true then Mw B p to k j else 0) → ∃ z', fM_ways_176l109 (nI p) v3 (nI k) (nI s) (nI j) (nI b) (rb_hI h1 65 s) (nI s) h1 = some (Sum.inl z') ∧ (z'.1 = nI (j + 1) ∧ Ag [65] h z'.2 ∧ (∀ u, u ≠ s → rb_hI z'.2 65 u = rb_hI h 65 u) ∧ rb_hI z'.2 65 s = nI (fb_sm (fun t => if (k = 0 ∨ frB B p t = true) ∧ goB B p s t = true then Mw B p to k t else 0) (j + 1))) := by
      intro b hb
      unfold fM_ways_176l109
      rw [if_neg (oob_n hs (by omega)), cl_n (by omega)]
      refine ⟨_, rfl, nI_1 _, Ag_sI (by simp) hA, fun u hu => by rw [hI_sI, if_neg (fun z => hu z.2)]; exact hO u hu, ?_⟩
      rw [hI_sI, if_pos ⟨rfl, rfl⟩, hI, nI_add, hb]
      rfl
    have low : (k = 0 ∨ frB B p j = true) → ∃ z', fM_ways_139l109 (nI p) v3 (nI k) (nI s) (nI j) (rb_hI h1 65 s) (nI s) h1 = some (Sum.inl z') ∧ (z'.1 = nI (j + 1) ∧ Ag [65] h z'.2 ∧ (∀ u, u ≠ s → rb_hI z'.2 65 u = rb_hI h 65 u) ∧ rb_hI z'.2 65 s = nI (fb_sm (fun t => if (k = 0 ∨ frB B p t = true) ∧ goB B p s t = true then Mw B p to k t else 0) (j + 1))) := by
      intro hc
      unfold fM_ways_139l109 fM_ways_175l109
      simp only [if_neg (oob_n hj (by omega)), cl_n (show j < 2 ^ 31 by omega), hM1, e0, M_canGo R1 hW hp hs hj, Option.bind_some]
      by_cases c0 : Mw B p to k j = 0
      · rw [if_pos c0]
        refine fin 0 ?_
        split
        · exact c0.symm
        · rfl
      · rw [if_neg c0]
        by_cases cg : goB B p s j = true
        · rw [if_pos cg]
          exact fin _ (by rw [if_pos ⟨hc, cg⟩])
        · rw [if_neg cg]
          exact fin 0 (by rw [if_neg (fun z => cg z.2)])
    unfold fM_ways_109b
    simp only [if_neg (show ¬ (25 : Int32) ≤ nI j from nI_ge (b := 25) hj (by omega)), if_neg (oob_n hs (by omega)), cl_n (show s < 2 ^ 31 by omega), ek, M_isFree R1 hW hp hj, Option.bind_some]
    by_cases c : k = 0
    · rw [if_pos c]
      exact low (Or.inl c)
    · rw [if_neg c]
      by_cases cf : frB B p j = true
      · rw [if_pos cf]
        exact low (Or.inr cf)
      · rw [if_neg cf]
        unfold fM_ways_175l109
        exact fin 0 (by rw [if_neg (fun z => z.1.elim c cf)])
  · rintro ⟨w, h1⟩ ⟨e, hA, hO, hI⟩
    dsimp only at e hA hO hI ⊢
    subst e
    unfold fM_ways_109b
    rw [if_pos (by decide)]
    exact ⟨_, rfl, hA, hO, hI⟩
theorem M_waysStep {h : rb_H} {B : sBd} (hR : RM h 50 B) (hW : WF B) {p to n k : Nat} (hp : p < bN B) (hk : k < n) (hn : n ≤ 4) (hM : ∀ t, t < 25 → rb_hI h 64 t = nI (Mw B p to k t)) : ∃ h', fM_ways_82b (nI p) (nI n) (nI k) h = some (Sum.inl (nI (k + 1), h')) ∧ Ag [64, 65] h h' ∧ ∀ t, t < 25 → rb_hI h' 64 t = nI (Mw B p to (k + 1) t) := by
  have a : ∃ x, rb_iter rb_fuel (fun z => fM_ways_91b (nI p) (nI n) (nI k) z.1 z.2) ((0 : Int32), h) = some x ∧ (Ag [65] h x ∧ ∀ s, s < 25 → rb_hI x 65 s = nI (Mw B p to (k + 1) s)) := by
    refine rb_runP (fun s z => z.1 = nI s ∧ Ag [65] h z.2 ∧ ∀ u, u < s → rb_hI z.2 65 u = nI (Mw B p to (k + 1) u)) _ 25 ⟨rfl, Ag_refl _ _, fun u hu => absurd hu (Nat.not_lt_zero _)⟩ (by omega) ?_ ?_
    · rintro s ⟨w, h1⟩ hs ⟨e, hA, hI⟩
      dsimp only at e hA hI ⊢
      subst e
      obtain ⟨x, m1, m2, m3, m4⟩ := M_waysIn (RMn_ag hR hA (by decide)) hW hp hs (show k < 4 by omega) (nI n) (fun t ht => (AgI hA (by decide) t).trans (hM t ht))
      unfold fM_ways_91b
      rw [if_neg (show ¬ (25 : Int32) ≤ nI s from nI_ge (b := 25) hs (by omega)), if_neg (oob_n hs (by omega)), cl_n (by omega), m1]
      refine ⟨_, rfl, nI_1 _, Ag_trans hA m2, fun u hu => ?_⟩
      by_cases e : u = s
      · rw [e]; exact m4
      · exact (m3 u e).trans (hI u (by omega))
    · rintro ⟨w, h1⟩ ⟨e, hA, hI⟩
      dsimp only at e hA hI ⊢
      subst e
      unfold fM_ways_91b
      rw [if_pos (by decide)]
      exact ⟨_, rfl, hA, hI⟩
  obtain ⟨x, m1, m2, m3⟩ := a
  have b : ∃ y, rb_iter rb_fuel (fun z => fM_ways_193b (nI p) (nI n) (nI k) z.1 z.2) ((0 : Int32), x) = some y ∧ (Ag [64] x y ∧ ∀ s, s < 25 → rb_hI y 64 s = rb_hI x 65 s) := by
    refine rb_runP (fun s z => z.1 = nI s ∧ Ag [64] x z.2 ∧ ∀ u, u < s → rb_hI z.2 64 u = rb_hI x 65 u) _ 25 ⟨rfl, Ag_refl _ _, fun u hu => absurd hu (Nat.not_lt_zero _)⟩ (by omega) ?_ ?_
    · rintro s ⟨w, h1⟩ hs ⟨e, hA, hI⟩
      dsimp only at e hA hI ⊢
      subst e
      unfold fM_ways_193b
      rw [if_neg (show ¬ (25 : Int32) ≤ nI s from nI_ge (b := 25) hs (by omega)), if_neg (oob_n hs (by omega)), if_neg (oob_n hs (by omega)), cl_n (by omega)]
      refine ⟨_, rfl, nI_1 _, Ag_sI (by simp) hA, fun u hu => ?_⟩
      rw [hI_sI]
      by_cases e : u = s
      · rw [if_pos ⟨rfl, e⟩, e]; exact AgI hA (by decide) s
      · rw [if_neg (fun z => e z.2)]; exact hI u (by omega)
    · rintro ⟨w, h1⟩ ⟨e, hA, hI⟩
      dsimp only at e hA hI ⊢
      subst e
      unfold fM_ways_193b
      rw [if_pos (by decide)]
      exact ⟨_, rfl, hA, hI⟩
  obtain ⟨y, l1, l2, l3⟩ := b
  unfold fM_ways_82b
  rw [if_neg (nI_ge hk (by omega)), m1]
  simp only [Option.bind_some, l1, nI_1]
  exact ⟨y, rfl, Ag_trans (AgS (by decide) m2) (AgS (by decide) l2), fun t ht => (l3 t ht).trans (m3 t ht)⟩
theorem M_rows {h : rb_H} {B : sBd} (hR : RM h 50 B) (hW : WF B) {p to n : Nat} (hp : p < bN B) (hto : to < 25) (hn : n ≤ 4) : ∃ x y, rb_iter rb_fuel (fun z => fM_ways_48b (nI p) (nI to) (nI n) z.1 z.2) ((0 : Int32), h) = some x ∧ rb_iter rb_fuel (fun z => fM_ways_82b (nI p) (nI n) z.1 z.2) ((0 : Int32), x) = some y ∧ Ag [64, 65] h y ∧ ∀ t, t < 25 → rb_hI y 64 t = nI (Mw B p to n t) := by
  have a : ∃ x, rb_iter rb_fuel (fun z => fM_ways_48b (nI p) (nI to) (nI n) z.1 z.2) ((0 : Int32), h) = some x ∧ (Ag [64] h x ∧ ∀ s, s < 25 → rb_hI x 64 s = nI (Mw B p to 0 s)) := by
    refine rb_runP (fun s z => z.1 = nI s ∧ Ag [64] h z.2 ∧ ∀ u, u < s → rb_hI z.2 64 u = nI (Mw B p to 0 u)) _ 25 ⟨rfl, Ag_refl _ _, fun u hu => absurd hu (Nat.not_lt_zero _)⟩ (by omega) ?_ ?_
    · rintro s ⟨w, h1⟩ hs ⟨e, hA, hI⟩
      dsimp only at e hA hI ⊢
      subst e
      have fin : ∀ v : Int32, v = nI (Mw B p to 0 s) → ∃ z', fM_ways_72l48 (nI p) (nI to) (nI n) (nI s) v (nI s) h1 = some (Sum.inl z') ∧ (z'.1 = nI (s + 1) ∧ Ag [64] h z'.2 ∧ ∀ u, u < s + 1 → rb_hI z'.2 64 u = nI (Mw B p to 0 u)) := by
        intro v hv
        unfold fM_ways_72l48
        rw [if_neg (oob_n hs (by omega)), cl_n (by omega)]
        refine ⟨_, rfl, nI_1 _, Ag_sI (by simp) hA, fun u hu => ?_⟩
        rw [hI_sI]
        by_cases e : u = s
        · rw [if_pos ⟨rfl, e⟩, e]; exact hv
        · rw [if_neg (fun z => e z.2)]; exact hI u (by omega)
      have es : nI s = nI to ↔ s = to := nI_eq (by omega) (by omega)
      unfold fM_ways_48b
      rw [if_neg (show ¬ (25 : Int32) ≤ nI s from nI_ge (b := 25) hs (by omega))]
      by_cases c : s = to
      · rw [if_pos (es.mpr c)]
        refine fin 1 ?_
        show _ = nI (if s = to then 1 else 0)
        rw [if_pos c]; rfl
      · rw [if_neg (fun z => c (es.mp z))]
        refine fin 0 ?_
        show _ = nI (if s = to then 1 else 0)
        rw [if_neg c]; rfl
    · rintro ⟨w, h1⟩ ⟨e, hA, hI⟩
      dsimp only at e hA hI ⊢
      subst e
      unfold fM_ways_48b
      rw [if_pos (by decide)]
      exact ⟨_, rfl, hA, hI⟩
  obtain ⟨x, m1, m2, m3⟩ := a
  have b : ∃ y, rb_iter rb_fuel (fun z => fM_ways_82b (nI p) (nI n) z.1 z.2) ((0 : Int32), x) = some y ∧ (Ag [64, 65] h y ∧ ∀ t, t < 25 → rb_hI y 64 t = nI (Mw B p to n t)) := by
    refine rb_runP (fun k z => z.1 = nI k ∧ Ag [64, 65] h z.2 ∧ ∀ t, t < 25 → rb_hI z.2 64 t = nI (Mw B p to k t)) _ n ⟨rfl, AgS (by decide) m2, m3⟩ (by omega) ?_ ?_
    · rintro k ⟨w, h1⟩ hk ⟨e, hA, hI⟩
      dsimp only at e hA hI ⊢
      subst e
      obtain ⟨h2, z1, z2, z3⟩ := M_waysStep (RMn_ag hR hA (by decide)) hW hp hk hn hI
      exact ⟨_, z1, rfl, Ag_trans hA z2, z3⟩
    · rintro ⟨w, h1⟩ ⟨e, hA, hI⟩
      dsimp only at e hA hI ⊢
      subst e
      unfold fM_ways_82b
      rw [if_pos (nI_le (Nat.le_refl _) (by omega))]
      exact ⟨_, rfl, hA, hI⟩
  obtain ⟨y, l1, l2, l3⟩ := b
  exact ⟨x, y, m1, l1, l2, l3⟩
theorem O_ways (x y v : Int32) : rb_op (fB_ways x y v) (fM_ways x y v) := by
  refine rb_op_of (fun σ hσ => ?_)
  have hW := hσ.1
  have h8 := hW.1
  rcases sq_or x (bN (zB σ)) with ⟨p, hp, rfl⟩ | hx
  · rcases sq_or y 25 with ⟨s, hs, rfl⟩ | hy
    · rcases rg_or v (n := 4) (by omega) with ⟨n, hn, rfl⟩ | hv
      · have i1 : fM_in (nI n) 0 4 = true := M_in_y hn (by omega) rfl
        have l4 : nI n ≤ (4 : Int32) := nI_le (b := 4) hn (by omega)
        by_cases ho : bP (zB σ) p = 25
        · refine at_refuse hσ (-2) (fun h hI => ?_) (fun h hI => ?_)
          · unfold fB_ways fB_ways_0
            rw [S_has_y hI.1 hW hp, if_pos rfl, B_isSquare_y hs, if_pos rfl, if_neg (nI_pos (by omega)), if_pos l4, S_stands_y hI.1 hW hp]
            simp [ho]
          · unfold fM_ways fM_ways_0
            rw [M_isPiece_y hI.1 hW hp, if_pos rfl, M_isSquare_y hs, if_pos rfl, i1, if_pos rfl, M_isOut hI.1 hW hp]
            simp [ho]
        · have hw := (hW.2.2.1 p hp).2.2.1
          have hpl : bP (zB σ) p < 25 := by omega
          refine at_quiet hσ (nI (Mw (zB σ) p s n (bP (zB σ) p))) (fun h hI => ?_) (fun h0 h e hI => ?_)
          · obtain ⟨h1, a1, a2, a3⟩ := C_open hI.1 hW hp
            obtain ⟨h2, b1, b2⟩ := C_rows a2 hpl hs hn
            rw [CM_all _ _ hpl hs] at b1
            unfold fB_ways fB_ways_0
            rw [S_has_y hI.1 hW hp, if_pos rfl, B_isSquare_y hs, if_pos rfl, if_neg (nI_pos (by omega)), if_pos l4, S_stands_y hI.1 hW hp]
            simp only [Option.bind_some, decide_eq_true_eq, if_pos ho, a1, b1]
            exact ⟨h2, rfl, Ag_trans (AgS (by decide +kernel) a3) (AgS (by decide +kernel) b2)⟩
          · obtain ⟨x, y, m1, m2, m3, m4⟩ := M_rows hI.1 hW hp hs hn
            have q : rb_hI y 50 (8 + p) = nI (bP (zB σ) p) := (AgI m3 (by decide) _).trans (hI.1.2.2.2.2 p hp).2.2.1
            unfold fM_ways fM_ways_0
            rw [← e, M_isPiece_y hI.1 hW hp, if_pos rfl, M_isSquare_y hs, if_pos rfl, i1, if_pos rfl, M_isOut hI.1 hW hp]
            simp only [Option.bind_some, decide_eq_true_eq, if_neg ho, m1, m2, nI8, if_neg (oob_n (show 8 + p < 27 by omega) (by omega)), cl_n (show 8 + p < 2 ^ 31 by omega), q, if_neg (oob_n hpl (by omega)), cl_n (show bP (zB σ) p < 2 ^ 31 by omega), m4 _ hpl]
            exact ⟨y, rfl, AgS (by decide +kernel) m3⟩
      · refine at_refuse hσ (-1) (fun h hI => ?_) (fun h hI => ?_)
        · unfold fB_ways fB_ways_0
          rw [S_has_y hI.1 hW hp, if_pos rfl, B_isSquare_y hs, if_pos rfl]
          rcases hv with hv | ⟨hv, hv2⟩
          · rw [if_pos hv]
          · rw [if_neg hv, if_neg (show ¬ v ≤ (4 : Int32) from Int32.not_le.mpr hv2)]
        · unfold fM_ways fM_ways_0
          rw [M_isPiece_y hI.1 hW hp, if_pos rfl, M_isSquare_y hs, if_pos rfl, M_in_no (M := 4) hv, if_neg (by decide)]
    · refine at_refuse hσ (-1) (fun h hI => ?_) (fun h hI => ?_)
      · unfold fB_ways fB_ways_0
        rw [S_has_y hI.1 hW hp, if_pos rfl, B_isSquare_n hy, if_neg (by decide)]
      · unfold fM_ways fM_ways_0
        rw [M_isPiece_y hI.1 hW hp, if_pos rfl, M_isSquare_n hy, if_neg (by decide)]
  · refine at_refuse hσ (-1) (fun h hI => ?_) (fun h hI => ?_)
    · unfold fB_ways fB_ways_0
      rw [S_has_n hI.1 hW hx, if_neg (by decide)]
    · unfold fM_ways fM_ways_0
      rw [M_isPiece_n hI.1 hW hx, if_neg (by decide)]
