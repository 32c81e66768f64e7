def aV (T : Nat) (o : Option (Int × Nat)) : Int32 := match o with
  | none => 0
  | some r => zI (sg T r.1)
def aN (o : Option (Int × Nat)) : Int32 := match o with
  | none => 1
  | some _ => 0
def lsO (ρ : sRu) (n : Nat) (B : sBd) (o : Option (Int × Nat)) : List Nat := match o with
  | none => []
  | some r => mcN r.2 :: (ev ρ n (nxB B r.2)).2
def LK (ρ : sRu) (n : Nat) : Prop := ∀ j, j + n ≤ 2 → ∀ B, WF B → ∀ h, RM h (75 + j) B → RuM h ρ → ∀ m, n < m → ∃ h', fR_look m (nI j) (nI (j + n)) h = some (zI (ev ρ n B).1, h') ∧ Fr j h h' ∧ PLn h' j (ev ρ n B).2
theorem Fr_refl (j : Nat) (h : rb_H) : Fr j h h := ⟨Ag_refl _ _, fun _ _ => rfl⟩
theorem Fr_RM {j : Nat} {h h' : rb_H} {B : sBd} (hj : j < 3) (hR : RM h (75 + j) B) (hF : Fr j h h') : RM h' (75 + j) B := RM_ag hR hF.1 (fun x hx => NL_at (lkF_a j hj).1.1.1.1 (by simp only [List.mem_cons, List.not_mem_nil, or_false] at hx ⊢; exact hx))
theorem Fr_RuM {j : Nat} {h h' : rb_H} {ρ : sRu} (hj : j < 3) (hU : RuM h ρ) (hF : Fr j h h') : RuM h' ρ := RuM_ag hU hF.1 (fun x hx => NL_at (lkF_a j hj).1.1.1.2 hx)
theorem M_lookIn {ρ : sRu} {n j m : Nat} (hLK : LK ρ n) (hj : j + (n + 1) ≤ 2) (hm : n < m) {B : sBd} (hW : WF B) {h : rb_H} (hR : RM h (75 + j) B) (hU : RuM h ρ) {p : Nat} (hp : p < bN B) (hside : bS B p = bT B) {g : rb_H} (hF : Fr j h g) (hP : PLn g j (lsO ρ n B (bO (cQ B) (vQ ρ n B) (25 * p)))) :
    ∃ x, rb_iter rb_fuel (fun s => fM_look_61b (fR_look m) (nI j) (nI (j + (n + 1))) (75 + j) (nI (bT B)) s.1 s.2.1 (nI p) s.2.2.1 s.2.2.2) (aV (bT B) (bO (cQ B) (vQ ρ n B) (25 * p)), aN (bO (cQ B) (vQ ρ n B) (25 * p)), (0 : Int32), g) = some x ∧ (x.1 = aV (bT B) (bO (cQ B) (vQ ρ n B) (25 * (p + 1))) ∧ x.2.1 = aN (bO (cQ B) (vQ ρ n B) (25 * (p + 1))) ∧ Fr j h x.2.2 ∧ PLn x.2.2 j (lsO ρ n B (bO (cQ B) (vQ ρ n B) (25 * (p + 1))))) := by
  have h8 := hW.1
  have hT := hW.2.1
  have vb : ∀ k, cQ B k = true → -5000 < vQ ρ n B k := fun k hk => by have := vQ_bound (ρ := ρ) (n := n) hW k hk; omega
  have vb2 : ∀ k, cQ B k = true → -792 ≤ vQ ρ n B k ∧ vQ ρ n B k ≤ 792 := fun k hk => vQ_bound hW k hk
  have fA := lkF_a j (by omega)
  have fB := lkF_b j (by omega)
  refine rb_runP (fun k s => s.1 = aV (bT B) (bO (cQ B) (vQ ρ n B) (25 * p + k)) ∧ s.2.1 = aN (bO (cQ B) (vQ ρ n B) (25 * p + k)) ∧ s.2.2.1 = nI k ∧ Fr j h s.2.2.2 ∧ PLn s.2.2.2 j (lsO ρ n B (bO (cQ B) (vQ ρ n B) (25 * p + k)))) _ 25 ⟨rfl, rfl, rfl, hF, hP⟩ (by omega) ?_ ?_
  · rintro k ⟨x, y, z, g1⟩ hk ⟨e0, e1, e2, hF, hP⟩
    dsimp only at e0 e1 e2 hF hP ⊢
    subst e0
    subst e1
    subst e2
    have R1 := Fr_RM (by omega) hR hF
    have U1 := Fr_RuM (by omega) hU hF
    have hcan : (decide (bP B p ≠ 25) && goB B p (bP B p) k) = canM B p k := by
      unfold canM
      rw [decide_eq_true hside, Bool.and_true]
    unfold fM_look_61b
    rw [if_neg (show ¬ (25 : Int32) ≤ nI k from nI_ge (b := 25) hk (by omega)), M_canGoNow R1 hW hp hk, hcan]
    simp only [Option.bind_some]
    by_cases c : canM B p k = true
    · rw [if_pos c]
      have hc : cQ B (25 * p + k) = true := by rw [cQ_at hp hk]; exact c
      have hne := canM_ne hW hp hk c
      have hnx : nxB B (25 * p + k) = mvB B p k := nxB_at hk
      have hW1 := nxB_WF hW hc
      obtain ⟨g2, a1, a2, a3⟩ := M_layB (a := 75 + j) (b := 76 + j) R1 hW (by omega) ⟨by omega, by omega⟩ (by rcases (show j = 0 ∨ j = 1 by omega) with e | e <;> subst e <;> rfl)
      obtain ⟨g4, b1, b2, b3⟩ := M_goMove (a := 76 + j) a2 hW hp hk hne (by omega) (by omega)
      have A4 : Ag [76 + j] g1 g4 := Ag_trans a3 b3
      have U4 : RuM g4 ρ := RuM_ag U1 A4 (fun x hx => by simp only [List.mem_cons, List.not_mem_nil, or_false] at hx ⊢; omega)
      obtain ⟨g5, c1, c2, c3⟩ := hLK (j + 1) (by omega) (nxB B (25 * p + k)) hW1 g4 (by rw [hnx, show 75 + (j + 1) = 76 + j by omega]; exact b2) U4 m hm
      have F5 : Fr j h g5 := ⟨Ag_trans hF.1 (Ag_trans (AgS fB.1.1.1.2 A4) (AgS fB.1.1.1.1 c2.1)), fun i hi => (c2.2 i (by omega)).trans ((AgI A4 (by simp only [List.mem_cons, List.not_mem_nil, or_false]; omega) i).trans (hF.2 i hi))⟩
      have P5 : PLn g5 j (lsO ρ n B (bO (cQ B) (vQ ρ n B) (25 * p + k))) := by
        refine ⟨((c2.2 j (by omega)).trans (AgI A4 (by simp only [List.mem_cons, List.not_mem_nil, or_false]; omega) j)).trans hP.1, fun i hi => ?_⟩
        exact ((AgI c2.1 (NL_at fB.1.1.2 (by simp)) i).trans (AgI A4 (by simp only [List.mem_cons, List.not_mem_nil, or_false]; omega) i)).trans (hP.2 i hi)
      have hlen : (ev ρ n (nxB B (25 * p + k))).2.length ≤ 1 := Nat.le_trans (ev_len n _) (by omega)
      obtain ⟨g6, d1, d2, d3, d4⟩ := M_take (fR_look m) (h := g5) (j := j) (p := p) (s := k) (by omega) (by omega) hk hlen c3 (nI (j + (n + 1))) (nI (bT B)) (zI (ev ρ n (nxB B (25 * p + k))).1) (75 + j)
      have F6 : Fr j h g6 := ⟨Ag_trans F5.1 (AgS fA.1.2 d3), fun i hi => (d4 i (by omega)).trans (F5.2 i hi)⟩
      have hra : rb_ra 74 (j + 1) = 76 + j := by rw [ra_74 (j + 1) (by omega)]; omega
      have hvb := vb2 _ hc
      have eb := ev_bound (ρ := ρ) n _ hW1
      rw [show nI (j + 1 + n) = nI (j + (n + 1)) by rw [show j + 1 + n = j + (n + 1) by omega]] at c1
      simp only [nI_1, if_neg (oob_n (show j + 1 < 4 by omega) (show j + 1 < 2 ^ 31 by omega)), cl_n (show j + 1 < 2 ^ 31 by omega), hra, a1, Option.bind_some, b1, c1, d1]
      have hvq : vQ ρ n B (25 * p + k) = sg (bT B) (ev ρ n (nxB B (25 * p + k))).1 := rfl
      have take : bV (bO (cQ B) (vQ ρ n B) (25 * p + k)) < vQ ρ n B (25 * p + k) → ∃ s', some (Sum.inl (zI (ev ρ n (nxB B (25 * p + k))).1, (0 : Int32), nI (k + 1), g6)) = some (Sum.inl s' : (Int32 × Int32 × Int32 × rb_H) ⊕ (Int32 × Int32 × rb_H)) ∧ s'.1 = aV (bT B) (bO (cQ B) (vQ ρ n B) (25 * p + (k + 1))) ∧ s'.2.1 = aN (bO (cQ B) (vQ ρ n B) (25 * p + (k + 1))) ∧ s'.2.2.1 = nI (k + 1) ∧ Fr j h s'.2.2.2 ∧ PLn s'.2.2.2 j (lsO ρ n B (bO (cQ B) (vQ ρ n B) (25 * p + (k + 1)))) := by
        intro cl
        have nx : bO (cQ B) (vQ ρ n B) (25 * p + (k + 1)) = _ := bO_y hc (vb _ hc) cl
        rw [nx]
        refine ⟨_, rfl, ?_, rfl, rfl, F6, ?_⟩
        · show _ = zI (sg (bT B) (vQ ρ n B (25 * p + k)))
          rw [hvq, sg_sg]
        · show PLn g6 j (mcN (25 * p + k) :: (ev ρ n (nxB B (25 * p + k))).2)
          rw [mcN_at hk]; exact d2
      have keep : ¬ bV (bO (cQ B) (vQ ρ n B) (25 * p + k)) < vQ ρ n B (25 * p + k) → ∃ s', fM_look_236l61 (fR_look m) (nI j) (nI (j + (n + 1))) (75 + j) (nI (bT B)) (aV (bT B) (bO (cQ B) (vQ ρ n B) (25 * p + k))) (aN (bO (cQ B) (vQ ρ n B) (25 * p + k))) (nI p) (nI k) g5 = some (Sum.inl s' : (Int32 × Int32 × Int32 × rb_H) ⊕ (Int32 × Int32 × rb_H)) ∧ s'.1 = aV (bT B) (bO (cQ B) (vQ ρ n B) (25 * p + (k + 1))) ∧ s'.2.1 = aN (bO (cQ B) (vQ ρ n B) (25 * p + (k + 1))) ∧ s'.2.2.1 = nI (k + 1) ∧ Fr j h s'.2.2.2 ∧ PLn s'.2.2.2 j (lsO ρ n B (bO (cQ B) (vQ ρ n B) (25 * p + (k + 1)))) := by
        intro cl
        have nx : bO (cQ B) (vQ ρ n B) (25 * p + (k + 1)) = _ := bO_n hc (vb _ hc) cl
        rw [nx]
        unfold fM_look_236l61
        rw [nI_1]
        exact ⟨_, rfl, rfl, rfl, rfl, F5, P5⟩
      cases eo : bO (cQ B) (vQ ρ n B) (25 * p + k) with
      | none =>
        rw [eo] at take
        rw [show aN none = 1 from rfl, if_neg (by decide)]
        exact take (by show (-10000 : Int) < _; omega)
      | some r =>
        rw [eo] at take keep
        obtain ⟨r1, r2, r3⟩ := bO_is eo
        have rb := vb2 _ r2
        rw [← r3] at rb
        rw [show aN (some r) = 0 from rfl, if_pos rfl]
        have hav : aV (bT B) (some r) = zI (sg (bT B) r.1) := rfl
        have hbv : bV (some r) = r.1 := rfl
        rw [hbv] at take keep
        have sb := sg_bound (t := bT B) rb
        rcases (show bT B = 0 ∨ bT B = 1 by omega) with e | e
        · rw [if_pos (by rw [e]; rfl)]
          have hlt : aV (bT B) (some r) < zI (ev ρ n (nxB B (25 * p + k))).1 ↔ r.1 < vQ ρ n B (25 * p + k) := by
            rw [hav, zI_lt (by omega) (by omega), hvq, e]
            exact Iff.rfl
          by_cases cl : r.1 < vQ ρ n B (25 * p + k)
          · rw [if_pos (hlt.mpr cl)]
            exact take cl
          · rw [if_neg (fun z => cl (hlt.mp z))]
            exact keep cl
        · rw [if_neg (by rw [e]; decide)]
          have hlt : zI (ev ρ n (nxB B (25 * p + k))).1 < aV (bT B) (some r) ↔ r.1 < vQ ρ n B (25 * p + k) := by
            rw [hav, zI_lt (by omega) (by omega), hvq, e]
            unfold sg
            rw [if_neg (by decide), if_neg (by decide)]
            omega
          by_cases cl : r.1 < vQ ρ n B (25 * p + k)
          · rw [if_pos (hlt.mpr cl)]
            exact take cl
          · rw [if_neg (fun z => cl (hlt.mp z))]
            exact keep cl
    · rw [if_neg c]
      have hc : cQ B (25 * p + k) = false := by rw [cQ_at hp hk]; exact Bool.eq_false_iff.mpr c
      have nx : bO (cQ B) (vQ ρ n B) (25 * p + (k + 1)) = _ := bO_x (v := vQ ρ n B) hc
      unfold fM_look_236l61
      rw [nI_1, nx]
      exact ⟨_, rfl, rfl, rfl, rfl, hF, hP⟩
  · rintro ⟨x, y, z, g1⟩ ⟨e0, e1, e2, hF, hP⟩
    dsimp only at e0 e1 e2 hF hP ⊢
    subst e0
    subst e1
    subst e2
    unfold fM_look_61b
    rw [if_pos (by decide)]
    exact ⟨_, rfl, rfl, rfl, hF, hP⟩
