theorem cQ_side {ρ : sRu} {n : Nat} {B : sBd} {p : Nat} (hp : p < bN B) (hs : bS B p ≠ bT B) : ∀ k, k ≤ 25 → bO (cQ B) (vQ ρ n B) (25 * p + k) = bO (cQ B) (vQ ρ n B) (25 * p)
  | 0, _ => rfl
  | k + 1, h => by
    have hc : cQ B (25 * p + k) = false := by
      rw [cQ_at hp (by omega)]
      unfold canM
      rw [decide_eq_false hs, Bool.and_false, Bool.false_and]
    rw [← cQ_side hp hs k (by omega)]
    exact bO_x (v := vQ ρ n B) hc
theorem M_lookHead {m j a : Nat} {h : rb_H} {B : sBd} (hj : j < 3) (hR : RM h (75 + j) B) : fR_look (m + 1) (nI j) (nI a) h = ((rb_iter rb_fuel (fun s => fM_look_29b (fR_look m) (nI j) (nI a) (75 + j) (nI (bT B)) s.1 s.2.1 s.2.2.1 s.2.2.2) ((0 : Int32), (1 : Int32), (0 : Int32), rb_sI h 83 j 0)).bind fun x26 => if x26.2.1 = 0 then some (x26.1, x26.2.2) else (fM_worthBehind (75 + j) x26.2.2).bind fun u28 => some (u28.1, u28.2)) := by
  show fM_look (fR_look m) (nI j) (nI a) h = _
  unfold fM_look fM_look_0
  have hra := ra_74 j (by omega)
  simp only [if_neg (oob_n (show j < 4 by omega) (show j < 2 ^ 31 by omega)), if_neg (oob_n (show j < 3 by omega) (show j < 2 ^ 31 by omega)), cl_n (show j < 2 ^ 31 by omega), hra, hR.2.1]
theorem M_lookLeaf {ρ : sRu} {j a : Nat} (hj : j < 3) (ha : a ≤ 2) {B : sBd} (hW : WF B) {h g : rb_H} (hR : RM h (75 + j) B) (hU : RuM h ρ) (hF : Fr j h g) (hP : PLn g j []) : ∃ h', fM_worthBehind (75 + j) g = some (zI (woM ρ B), h') ∧ Fr j h h' ∧ PLn h' j [] := by
  have R1 := Fr_RM hj hR hF
  have U1 := Fr_RuM hj hU hF
  obtain ⟨h', a1, a2⟩ := M_worth R1 hW U1 (by omega)
  refine ⟨h', a1, ⟨Ag_trans hF.1 (AgS (lkF_a j hj).1.1.2 a2), fun i hi => (AgI a2 (by decide) i).trans (hF.2 i hi)⟩, (AgI a2 (by decide) j).trans hP.1, fun i hi => absurd hi (Nat.not_lt_zero _)⟩
theorem LK_0 (ρ : sRu) : LK ρ 0 := by
  intro j hj B hW h hR hU m hm
  have h8 := hW.1
  cases m with
  | zero => omega
  | succ m =>
    rw [M_lookHead (by omega) hR]
    have hfa := lkF_a j (by omega)
    have F0 : Fr j h (rb_sI h 83 j 0) := ⟨Ag_sI (SL_at hfa.2 (by simp)) (Ag_refl _ _), fun i hi => by rw [hI_sI, if_neg (fun z => by omega)]⟩
    have P0 : PLn (rb_sI h 83 j 0) j [] := ⟨by rw [hI_sI, if_pos ⟨rfl, rfl⟩]; rfl, fun i hi => absurd hi (Nat.not_lt_zero _)⟩
    have hN : rb_hF (rb_sI h 83 j 0) 49 2 = nI (bN B) := (Fr_RM (by omega) hR F0).1
    have run : rb_iter rb_fuel (fun s => fM_look_29b (fR_look m) (nI j) (nI (j + 0)) (75 + j) (nI (bT B)) s.1 s.2.1 s.2.2.1 s.2.2.2) ((0 : Int32), (1 : Int32), (0 : Int32), rb_sI h 83 j 0) = some ((0 : Int32), (1 : Int32), rb_sI h 83 j 0) := by
      refine rb_run' (fun _ => ((0 : Int32), (1 : Int32), (0 : Int32), rb_sI h 83 j 0)) 0 rfl (by omega) (fun k hk => absurd hk (Nat.not_lt_zero _)) ?_
      show fM_look_29b _ _ _ _ _ 0 1 0 (rb_sI h 83 j 0) = _
      unfold fM_look_29b
      by_cases c : rb_hF (rb_sI h 83 j 0) 49 2 ≤ 0
      · rw [if_pos c]
      · rw [if_neg c, if_pos (nI_le (by omega) (by omega))]
    rw [run]
    obtain ⟨h', l1, l2, l3⟩ := M_lookLeaf (by omega) (show (2 : Nat) ≤ 2 by omega) hW hR hU F0 P0
    refine ⟨h', ?_, l2, l3⟩
    simp only [Option.bind_some]
    rw [if_neg (by decide), l1]
    rfl
theorem LK_s {ρ : sRu} {n : Nat} (hLK : LK ρ n) : LK ρ (n + 1) := by
  intro j hj B hW h hR hU m hm
  have h8 := hW.1
  have hT := hW.2.1
  cases m with
  | zero => omega
  | succ m =>
    rw [M_lookHead (by omega) hR]
    have hfa := lkF_a j (by omega)
    have F0 : Fr j h (rb_sI h 83 j 0) := ⟨Ag_sI (SL_at hfa.2 (by simp)) (Ag_refl _ _), fun i hi => by rw [hI_sI, if_neg (fun z => by omega)]⟩
    have P0 : PLn (rb_sI h 83 j 0) j [] := ⟨by rw [hI_sI, if_pos ⟨rfl, rfl⟩]; rfl, fun i hi => absurd hi (Nat.not_lt_zero _)⟩
    have lp : ∃ x, rb_iter rb_fuel (fun s => fM_look_29b (fR_look m) (nI j) (nI (j + (n + 1))) (75 + j) (nI (bT B)) s.1 s.2.1 s.2.2.1 s.2.2.2) ((0 : Int32), (1 : Int32), (0 : Int32), rb_sI h 83 j 0) = some x ∧ (x.1 = aV (bT B) (bO (cQ B) (vQ ρ n B) (25 * bN B)) ∧ x.2.1 = aN (bO (cQ B) (vQ ρ n B) (25 * bN B)) ∧ Fr j h x.2.2 ∧ PLn x.2.2 j (lsO ρ n B (bO (cQ B) (vQ ρ n B) (25 * bN B)))) := by
      refine rb_runP (fun k s => s.1 = aV (bT B) (bO (cQ B) (vQ ρ n B) (25 * k)) ∧ s.2.1 = aN (bO (cQ B) (vQ ρ n B) (25 * k)) ∧ s.2.2.1 = nI k ∧ Fr j h s.2.2.2 ∧ PLn s.2.2.2 j (lsO ρ n B (bO (cQ B) (vQ ρ n B) (25 * k)))) _ (bN B) ⟨rfl, rfl, rfl, F0, P0⟩ (by omega) ?_ ?_
      · rintro k ⟨x, y, z, g1⟩ hk ⟨e0, e1, e2, hF, hP⟩
        dsimp only at e0 e1 e2 hF hP ⊢
        subst e0
        subst e1
        subst e2
        have R1 := Fr_RM (by omega) hR hF
        have hw := hW.2.2.1 k hk
        unfold fM_look_29b fM_look_242l29
        simp only [R1.1, if_neg (nI_ge hk (show bN B < 2 ^ 31 by omega)), if_neg (nI_ge (show j < j + (n + 1) by omega) (show j + (n + 1) < 2 ^ 31 by omega)), if_neg (oob_n (show k < 8 by omega) (show k < 2 ^ 31 by omega)), cl_n (show k < 2 ^ 31 by omega), (R1.2.2.2.2 k hk).2.1, nI_1]
        by_cases e : bS B k = bT B
        · rw [if_pos (by rw [e])]
          obtain ⟨x, x1, x2, x3, x4, x5⟩ := M_lookIn hLK hj (show n < m by omega) hW hR hU hk e hF hP
          rw [x1]
          simp only [Option.bind_some]
          exact ⟨_, rfl, x2, x3, rfl, x4, x5⟩
        · rw [if_neg (fun z => e ((nI_eq (by omega) (by omega)).mp z))]
          have same : bO (cQ B) (vQ ρ n B) (25 * (k + 1)) = _ := cQ_side (ρ := ρ) (n := n) hk e 25 (Nat.le_refl _)
          rw [same]
          exact ⟨_, rfl, rfl, rfl, rfl, hF, hP⟩
      · rintro ⟨x, y, z, g1⟩ ⟨e0, e1, e2, hF, hP⟩
        dsimp only at e0 e1 e2 hF hP ⊢
        subst e0
        subst e1
        subst e2
        have R1 := Fr_RM (by omega) hR hF
        unfold fM_look_29b
        rw [R1.1, if_pos (nI_le (Nat.le_refl _) (by omega))]
        exact ⟨_, rfl, rfl, rfl, hF, hP⟩
    obtain ⟨⟨y0, y1, g⟩, x1, x2, x3, x4, x5⟩ := lp
    dsimp only at x2 x3 x4 x5
    subst x2
    subst x3
    rw [x1]
    simp only [Option.bind_some]
    cases eo : bO (cQ B) (vQ ρ n B) (25 * bN B) with
    | none =>
      rw [eo] at x5
      obtain ⟨h', l1, l2, l3⟩ := M_lookLeaf (by omega) (show (2 : Nat) ≤ 2 by omega) hW hR hU x4 x5
      rw [show aN none = 1 from rfl, if_neg (by decide), l1, ev_none eo]
      exact ⟨h', rfl, l2, l3⟩
    | some r =>
      rw [eo] at x5
      rw [show aN (some r) = 0 from rfl, if_pos rfl, ev_some eo]
      exact ⟨g, rfl, x4, x5⟩
theorem LK_all (ρ : sRu) : ∀ n, LK ρ n
  | 0 => LK_0 ρ
  | n + 1 => LK_s (LK_all ρ n)
