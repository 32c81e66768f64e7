/-! best, looks -/
theorem M_lookFrom {h : rb_H} {B : sBd} {ρ : sRu} (hR : RM h 50 B) (hW : WF B) (hU : RuM h ρ) {n : Nat} (hn : n ≤ 2) : ∃ h', fM_lookFrom (nI n) h = some (zI (sg (bT B) (ev ρ n B).1), h') ∧ Ag fM9 h h' ∧ PLn h' 0 (ev ρ n B).2 := by
  have hT := hW.2.1
  obtain ⟨h1, a1, a2, a3⟩ := M_layB (a := 50) (b := 75) hR hW (by decide) (by decide) (by rfl)
  have U1 := RuMn_ag hU a3 (by decide)
  obtain ⟨h2, b1, b2, b3⟩ := LK_all ρ n 0 (by omega) B hW h1 a2 U1 rb_deep (by rw [rb_deep_eq]; omega)
  rw [Nat.zero_add] at b1
  have A2 : Ag fM9 h h2 := Ag_trans (AgS (by decide +kernel) a3) (AgS (by decide +kernel) b2.1)
  have q : rb_hI h2 50 24 = nI (bT B) := (AgI A2 (by decide) 24).trans hR.2.1
  unfold fM_lookFrom fM_lookFrom_0
  rw [a1]
  simp only [Option.bind_some]
  rw [show (0 : Int32) = nI 0 from rfl, b1]
  simp only [Option.bind_some, q]
  refine ⟨h2, ?_, A2, b3⟩
  rcases (show bT B = 0 ∨ bT B = 1 by omega) with e | e <;> rw [e]
  · rw [if_pos rfl]; rfl
  · rw [if_neg (by decide), zI_neg]; rfl
theorem O_best : rb_op fB_best fM_best := by
  refine rb_op_of (fun σ hσ => ?_)
  have hW := hσ.1
  have vb2 : ∀ k, cQ (zB σ) k = true → -792 ≤ vQ (zR σ) 0 (zB σ) k ∧ vQ (zR σ) 0 (zB σ) k ≤ 792 := fun k hk => vQ_bound hW k hk
  have cOne : ∀ h, IC h σ → ∃ h', fK_oneMove 94 5 10000 h = some (zI (e1Q (zR σ) (zB σ)), h') ∧ Ag fC9 h h' ∧ rb_hF h' 47 3 = bI3 (bO (cQ (zB σ)) (vQ (zR σ) 0 (zB σ)) (25 * bN (zB σ))) := by
    intro h hI
    obtain ⟨w, h', a1, a2, a3, a4⟩ := C_one (o1 := 94) (Or.inl rfl) hI.1 hW hI.2.1 (e := 10000) (by omega)
    rcases a4 with ⟨q, -⟩ | ⟨q1, q2⟩
    · omega
    · exact ⟨h', by rw [← q1]; exact a1, AgS (by decide +kernel) a2.1, q2⟩
  cases eo : bO (cQ (zB σ)) (vQ (zR σ) 0 (zB σ)) (25 * bN (zB σ)) with
  | none =>
    refine at_quiet hσ (-2) (fun h hI => ?_) (fun h0 h e hI => ?_)
    · obtain ⟨h', a1, a2, a3⟩ := cOne h hI
      unfold fB_best fB_best_0
      rw [a1]
      simp only [Option.bind_some, a3, eo]
      rw [if_neg (show ¬ (0 : Int32) ≤ bI3 none from by decide)]
      exact ⟨h', rfl, a2⟩
    · obtain ⟨h', b1, b2, b3⟩ := M_lookFrom hI.1 hW hI.2.1 (n := 1) (by omega)
      have q := b3.1
      rw [ev_none eo] at q
      unfold fM_best fM_best_0
      rw [← e, show (1 : Int32) = nI 1 from rfl, b1]
      simp only [Option.bind_some, q]
      rw [if_pos (show nI ([] : List Nat).length = 0 from rfl)]
      exact ⟨h', rfl, b2⟩
  | some r =>
    obtain ⟨r1, r2, r3⟩ := bO_is eo
    have h8 := hW.1
    have hm : mcN r.2 < 2 ^ 31 := by unfold mcN; omega
    refine at_row hσ (nI (mcN r.2)) [((1000 : Int32) + zI (e1Q (zR σ) (zB σ))).toInt64] (by simp) (fun h hI => ?_) (fun h0 h e hI => ?_)
    · obtain ⟨h', a1, a2, a3⟩ := cOne h hI
      obtain ⟨h2, t1, t2, t3⟩ := C_tell2 ((1000 : Int32) + zI (e1Q (zR σ) (zB σ))).toInt64 h'
      rw [eo] at a3
      have q : rb_hF h2 47 3 = nI (mcN r.2) := (AgF t3 (by decide)).trans a3
      unfold fB_best fB_best_0
      rw [a1]
      simp only [Option.bind_some, a3]
      rw [if_pos (show (0 : Int32) ≤ bI3 (some r) from nI_pos' hm), t1]
      simp only [Option.bind_some, q]
      exact ⟨h2, rfl, t2, Ag_trans (fC9_0 a2) (AgS (by decide +kernel) t3)⟩
    · obtain ⟨h', b1, b2, b3⟩ := M_lookFrom hI.1 hW hI.2.1 (n := 1) (by omega)
      have q := b3.1
      have q2 := b3.2 0
      rw [ev_some eo] at q q2
      have q2 := q2 (Nat.succ_pos _)
      have q' : rb_hI h' 83 0 = nI 1 := q
      obtain ⟨h2, t1, t2, t3⟩ := M_tell (M_row0 h') (by decide) ((1000 : Int32) + zI (e1Q (zR σ) (zB σ))).toInt64
      have q3 : rb_hI h2 80 0 = nI (mcN r.2) := (AgI t3 (by decide) 0).trans q2
      unfold fM_best fM_best_0
      rw [← e, show (1 : Int32) = nI 1 from rfl, b1]
      simp only [Option.bind_some, q']
      rw [if_neg (show ¬ nI 1 = (0 : Int32) from by decide), show ((1000 : Int32) + zI (sg (bT (zB σ)) (ev (zR σ) 1 (zB σ)).1)).toInt64 = ((1000 : Int32) + zI (e1Q (zR σ) (zB σ))).toInt64 from rfl, t1]
      simp only [Option.bind_some, q3]
      exact ⟨h2, rfl, t2, Ag_trans (fM9_0 b2) (Ag_trans (Ag_sF (by decide) (Ag_refl _ _)) (AgS (by decide +kernel) t3))⟩
/-- a number told, or none -/
def tlO (x : Int32) (L : List Nat) : Prop := (x = -1 ∧ L = []) ∨ ∃ m, m < 2 ^ 31 ∧ x = nI m ∧ L = [m]
def toL (L : List Nat) : List Int64 := L.map fun m => (nI m).toInt64
theorem C_looks137 {h : rb_H} {R : List Int64} {L : List Nat} {x : Int32} (v : Int32) (hx : rb_hF h 47 3 = x) (h3 : tlO x L) (hR : RWc h R) (hl : R.length < 25) : ∃ h', fB_looks_137 v h = some (1000 + v, h') ∧ RWc h' (R ++ toL L) ∧ Ag [3, 4] h h' := by
  unfold fB_looks_137 fB_looks_162
  rw [hx]
  rcases h3 with ⟨rfl, rfl⟩ | ⟨m, hm, rfl, rfl⟩
  · rw [if_pos (by decide)]
    exact ⟨h, rfl, by rw [show R ++ toL [] = R from List.append_nil R]; exact hR, Ag_refl _ _⟩
  · obtain ⟨h1, a1, a2, a3⟩ := C_add hR hl (nI m).toInt64
    rw [if_neg (nI_pos hm), a1]
    exact ⟨h1, rfl, a2, a3⟩
theorem C_looks104 {h : rb_H} {L2 L3 : List Nat} {x2 x3 : Int32} (v : Int32) (hx2 : rb_hF h 47 2 = x2) (hx3 : rb_hF h 47 3 = x3) (h2 : tlO x2 L2) (h3 : tlO x3 L3) : ∃ h', fB_looks_104 v h = some (1000 + v, h') ∧ RWc h' (toL (L2 ++ L3)) ∧ Ag [3, 4] h h' := by
  have A0 : Ag [3, 4] h (rb_sF h 3 1 0) := Ag_sF (by decide) (Ag_refl _ _)
  have f2 : rb_hF (rb_sF h 3 1 0) 47 2 = x2 := (AgF A0 (by decide)).trans hx2
  have f3 : rb_hF (rb_sF h 3 1 0) 47 3 = x3 := (AgF A0 (by decide)).trans hx3
  unfold fB_looks_104
  rw [f2]
  rcases h2 with ⟨rfl, rfl⟩ | ⟨m, hm, rfl, rfl⟩
  · obtain ⟨h1, a1, a2, a3⟩ := C_looks137 v f3 h3 (C_row0 h) (by decide)
    rw [if_pos (by decide)]
    exact ⟨h1, a1, a2, Ag_trans A0 a3⟩
  · obtain ⟨h1, a1, a2, a3⟩ := C_add (C_row0 h) (by decide) (nI m).toInt64
    have g3 : rb_hF h1 47 3 = x3 := (AgF a3 (by decide)).trans f3
    obtain ⟨h4, b1, b2, b3⟩ := C_looks137 v g3 h3 a2 (by simp)
    rw [if_neg (nI_pos hm), a1]
    simp only [Option.bind_some]
    exact ⟨h4, b1, b2, Ag_trans A0 (Ag_trans a3 b3)⟩
theorem M_looksL {h : rb_H} {L : List Nat} (hP : PLn h 0 L) (hl : L.length ≤ 2) (v : Int32) : ∃ x, rb_iter rb_fuel (fun s => fM_looks_29b v s.1 s.2) ((0 : Int32), rb_sF h 49 6 0) = some x ∧ (RWm x (toL L) ∧ Ag [1006, 53] h x) := by
  obtain ⟨p1, p2⟩ := hP
  refine rb_runP (fun k s => s.1 = nI k ∧ RWm s.2 (toL (L.take k)) ∧ Ag [1006, 53] h s.2) _ L.length ⟨rfl, M_row0 h, Ag_sF (by decide) (Ag_refl _ _)⟩ (by omega) ?_ ?_
  · rintro k ⟨y, g⟩ hk ⟨e1, e2, hA⟩
    dsimp only at e1 e2 hA ⊢
    subst e1
    have q1 : rb_hI g 83 0 = nI L.length := (AgI hA (by decide) 0).trans p1
    have q2 : rb_hI g 80 k = nI (L.getD k 0) := (AgI hA (by decide) k).trans (p2 k hk)
    obtain ⟨g1, a1, a2, a3⟩ := M_tell e2 (by unfold toL; rw [List.length_map, List.length_take]; omega) (nI (L.getD k 0)).toInt64
    unfold fM_looks_29b
    simp only [q1, if_neg (nI_ge hk (show L.length < 2 ^ 31 by omega)), if_neg (oob_n (show k < 3 by omega) (show k < 2 ^ 31 by omega)), cl_n (show k < 2 ^ 31 by omega), q2, a1, Option.bind_some, nI_1]
    refine ⟨_, rfl, rfl, ?_, Ag_trans hA a3⟩
    have : toL (L.take (k + 1)) = toL (L.take k) ++ [(nI (L.getD k 0)).toInt64] := by
      unfold toL
      rw [List.take_add_one, List.map_append]
      have : L[k]? = some (L.getD k 0) := by rw [List.getD_eq_getElem?_getD, List.getElem?_eq_getElem hk]; rfl
      rw [this]; rfl
    show RWm g1 (toL (L.take (k + 1)))
    rw [this]
    exact a2
  · rintro ⟨y, g⟩ ⟨e1, e2, hA⟩
    dsimp only at e1 e2 hA ⊢
    subst e1
    have q1 : rb_hI g 83 0 = nI L.length := (AgI hA (by decide) 0).trans p1
    unfold fM_looks_29b
    rw [q1, if_pos (nI_le (Nat.le_refl _) (by omega))]
    rw [List.take_length] at e2
    exact ⟨_, rfl, e2, hA⟩
theorem tlO_none {o : Option (Int × Nat)} (h : o = none) : tlO (bI3 o) [] := Or.inl ⟨by rw [h]; rfl, rfl⟩
theorem tlO_some {o : Option (Int × Nat)} {r : Int × Nat} (h : o = some r) (hm : mcN r.2 < 2 ^ 31) : tlO (bI3 o) [mcN r.2] := Or.inr ⟨mcN r.2, hm, by rw [h]; rfl, rfl⟩
theorem mc_lt {B : sBd} (hW : WF B) {v : Nat → Int} {r : Int × Nat} (e : bO (cQ B) v (25 * bN B) = some r) : mcN r.2 < 2 ^ 31 := by
  have := (bO_is e).1
  have := hW.1
  unfold mcN
  omega
/-- what the class tells of looking n ahead -/
theorem C_looksN {h : rb_H} {σ : sSt} (hσ : WS σ) (hI : IC h σ) {n : Nat} (hn : n ≤ 2) : ∃ h', fB_looks (nI n) h = some (1000 + zI (sg (bT (zB σ)) (ev (zR σ) n (zB σ)).1), h') ∧ RWc h' (toL (ev (zR σ) n (zB σ)).2) ∧ Ag fC0 h h' := by
  have hW := hσ.1
  have hT := hW.2.1
  unfold fB_looks fB_looks_0
  rw [if_neg (show ¬ nI n < 0 from nI_nlt (b := 0) (by omega) (by omega)), if_pos (show nI n ≤ (2 : Int32) from nI_le (b := 2) hn (by omega))]
  rcases (show n = 0 ∨ n = 1 ∨ n = 2 by omega) with e | e | e <;> subst e
  · rw [if_pos (show nI 0 = (0 : Int32) from rfl), hI.1.2.1]
    obtain ⟨h1, a1, a2⟩ := C_worth (o := 94) (ru := 5) (t := bT (zB σ)) hI.1 hW hI.2.1 hT (by decide) (by decide) (by omega)
    rw [a1]
    simp only [Option.bind_some]
    obtain ⟨h2, b1, b2, b3⟩ := C_looks104 (h := rb_sF (rb_sF h1 47 2 (-1)) 47 3 (-1)) (L2 := []) (L3 := []) (zI (sg (bT (zB σ)) (woM (zR σ) (zB σ)))) (by rw [hF_sF, if_neg (by decide), hF_sF, if_pos ⟨rfl, rfl⟩]) (by rw [hF_sF, if_pos ⟨rfl, rfl⟩]) (Or.inl ⟨rfl, rfl⟩) (Or.inl ⟨rfl, rfl⟩)
    exact ⟨h2, b1, b2, Ag_trans (AgS (by decide +kernel) a2) (Ag_trans (Ag_sF (by decide) (Ag_sF (by decide) (Ag_refl _ _))) (AgS (by decide +kernel) b3))⟩
  · rw [if_neg (by decide), if_pos (show nI 1 = (1 : Int32) from rfl)]
    obtain ⟨w, h1, a1, a2, a3, a4⟩ := C_one (o1 := 94) (Or.inl rfl) hI.1 hW hI.2.1 (e := 10000) (by omega)
    rcases a4 with ⟨q, -⟩ | ⟨q1, q2⟩
    · omega
    · rw [show (10000 : Int32) = zI 10000 from by decide, a1]
      simp only [Option.bind_some]
      have A1' : Ag [47] h1 (rb_sF h1 47 2 (-1)) := Ag_sF (by decide) (Ag_refl _ _)
      obtain ⟨h2, b1, b2, b3⟩ := C_looks104 (h := rb_sF h1 47 2 (-1)) (L2 := []) (L3 := (ev (zR σ) 1 (zB σ)).2) (x3 := bI3 (bO (cQ (zB σ)) (vQ (zR σ) 0 (zB σ)) (25 * bN (zB σ)))) (zI w) (by rw [hF_sF, if_pos ⟨rfl, rfl⟩]) (by rw [hF_sF, if_neg (by decide)]; exact q2) (Or.inl ⟨rfl, rfl⟩) (by
        rw [ev_list1]
        cases eo : bO (cQ (zB σ)) (vQ (zR σ) 0 (zB σ)) (25 * bN (zB σ)) with
        | none => exact tlO_none rfl
        | some r => exact tlO_some rfl (mc_lt hW eo))
      rw [q1] at b1
      rw [q1]
      exact ⟨h2, b1, b2, Ag_trans (AgS (by decide +kernel) a2.1) (Ag_trans (AgS (by decide +kernel) A1') (AgS (by decide +kernel) b3))⟩
  · rw [if_neg (by decide), if_neg (by decide)]
    obtain ⟨h1, a1, a2, a3, a4⟩ := C_two hI.1 hW hI.2.1
    rw [a1]
    simp only [Option.bind_some]
    cases eo : bO (cQ (zB σ)) (vQ (zR σ) 1 (zB σ)) (25 * bN (zB σ)) with
    | none =>
      rw [eo] at a3 a4
      obtain ⟨h2, b1, b2, b3⟩ := C_looks104 (h := h1) (L2 := []) (L3 := []) (zI (sg (bT (zB σ)) (ev (zR σ) 2 (zB σ)).1)) a3 a4 (Or.inl ⟨rfl, rfl⟩) (Or.inl ⟨rfl, rfl⟩)
      rw [ev_none eo] at b1 ⊢
      exact ⟨h2, b1, b2, Ag_trans (AgS (by decide +kernel) a2) (AgS (by decide +kernel) b3)⟩
    | some r =>
      rw [eo] at a3 a4
      obtain ⟨r1, r2, r3⟩ := bO_is eo
      have hW1 := nxB_WF hW r2
      obtain ⟨h2, b1, b2, b3⟩ := C_looks104 (h := h1) (L2 := [mcN r.2]) (L3 := (ev (zR σ) 1 (nxB (zB σ) r.2)).2) (zI (sg (bT (zB σ)) (ev (zR σ) 2 (zB σ)).1)) a3 a4 (Or.inr ⟨_, mc_lt hW eo, rfl, rfl⟩) (by
        show tlO (bI3 (bO (cQ (nxB (zB σ) r.2)) (vQ (zR σ) 0 (nxB (zB σ) r.2)) (25 * bN (nxB (zB σ) r.2)))) _
        rw [ev_list1]
        cases e1 : bO (cQ (nxB (zB σ) r.2)) (vQ (zR σ) 0 (nxB (zB σ) r.2)) (25 * bN (nxB (zB σ) r.2)) with
        | none => exact tlO_none rfl
        | some r' => exact tlO_some rfl (mc_lt hW1 e1))
      rw [ev_some eo] at b1 ⊢
      exact ⟨h2, b1, b2, Ag_trans (AgS (by decide +kernel) a2) (AgS (by decide +kernel) b3)⟩
theorem O_looks (x : Int32) : rb_op (fB_looks x) (fM_looks x) := by
  refine rb_op_of (fun σ hσ => ?_)
  have hW := hσ.1
  rcases rg_or (n := 2) x (by omega) with ⟨n, hn, rfl⟩ | hx
  · have hlen : (ev (zR σ) n (zB σ)).2.length ≤ 2 := Nat.le_trans (ev_len n _) hn
    refine at_row hσ (1000 + zI (sg (bT (zB σ)) (ev (zR σ) n (zB σ)).1)) (toL (ev (zR σ) n (zB σ)).2) (by unfold toL; rw [List.length_map]; omega) (fun h hI => C_looksN hσ hI hn) (fun h0 h e hI => ?_)
    obtain ⟨h1, a1, a2, a3⟩ := M_lookFrom hI.1 hW hI.2.1 hn
    obtain ⟨g, b1, b2, b3⟩ := M_looksL a3 hlen (zI (sg (bT (zB σ)) (ev (zR σ) n (zB σ)).1))
    unfold fM_looks fM_looks_0
    rw [← e, M_in_y (n := 2) (M := 2) hn (by omega) rfl, if_pos rfl, a1]
    simp only [Option.bind_some, b1]
    exact ⟨g, rfl, b2, Ag_trans (fM9_0 a2) (AgS (by decide +kernel) b3)⟩
  · refine at_refuse hσ (-1) (fun h hI => ?_) (fun h hI => ?_)
    · unfold fB_looks fB_looks_0
      rcases hx with hx | ⟨h1, h2⟩
      · rw [if_pos hx]
      · rw [if_neg h1, if_neg (show ¬ x ≤ (2 : Int32) from Int32.not_le.mpr h2)]
    · unfold fM_looks fM_looks_0
      rw [M_in_no (M := 2) hx, if_neg (by decide)]
