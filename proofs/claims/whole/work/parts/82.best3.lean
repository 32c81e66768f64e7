def K2 : List Nat := [7, 10, 47, 196, 197, 198, 199, 200, 202, 203, 204, 205, 206]
/-- the answer to the first MOVE -/
def aI2 (ρ : sRu) (B : sBd) (o : Option (Int × Nat)) : Int32 := match o with
  | none => -1
  | some r => bI3 (bO (cQ (nxB B r.2)) (vQ ρ 0 (nxB B r.2)) (25 * bN (nxB B r.2)))
theorem vQ1_is {ρ : sRu} {B : sBd} (hW : WF B) {q : Nat} : vQ ρ 1 B q = -e1Q ρ (nxB B q) := by
  have hT := hW.2.1
  unfold vQ e1Q
  have : bT (nxB B q) = 1 - bT B := mvB_T B _ _
  rw [this]
  unfold sg
  rcases (show bT B = 0 ∨ bT B = 1 by omega) with e | e <;> rw [e]
  · rw [if_pos rfl, if_neg (by decide)]; omega
  · rw [if_neg (by decide), if_pos (by decide)]
section
variable {h : rb_H} {B : sBd} {ρ : sRu}
theorem C_twoIn (hR : RS h 94 B) (hW : WF B) (hU : RuC h 5 ρ) {p : Nat} (hp : p < bN B) {u : Int32} (hu : ∀ s, s < 25 → fB_holds u (nI s) = canM B p s) {g : rb_H} (hg : Ag K2 h g) (hg2 : rb_hF g 47 2 = bI3 (bO (cQ B) (vQ ρ 1 B) (25 * p))) :
    ∃ x, rb_iter rb_fuel (fun s => fK_twoMoves_48b 94 5 s.1 s.2.1 (nI p) u s.2.2.1 s.2.2.2) (aI2 ρ B (bO (cQ B) (vQ ρ 1 B) (25 * p)), zI (bV (bO (cQ B) (vQ ρ 1 B) (25 * p))), (0 : Int32), g) = some x ∧ (x.1 = aI2 ρ B (bO (cQ B) (vQ ρ 1 B) (25 * (p + 1))) ∧ x.2.1 = zI (bV (bO (cQ B) (vQ ρ 1 B) (25 * (p + 1)))) ∧ Ag K2 h x.2.2 ∧ rb_hF x.2.2 47 2 = bI3 (bO (cQ B) (vQ ρ 1 B) (25 * (p + 1)))) := by
  have h8 := hW.1
  have vb : ∀ k, cQ B k = true → -5000 < vQ ρ 1 B k := fun k hk => by have := vQ_bound (ρ := ρ) (n := 1) hW k hk; omega
  have vb2 : ∀ k, cQ B k = true → -792 ≤ vQ ρ 1 B k ∧ vQ ρ 1 B k ≤ 792 := fun k hk => vQ_bound hW k hk
  refine rb_runP (fun k s => s.1 = aI2 ρ B (bO (cQ B) (vQ ρ 1 B) (25 * p + k)) ∧ s.2.1 = zI (bV (bO (cQ B) (vQ ρ 1 B) (25 * p + k))) ∧ s.2.2.1 = nI k ∧ Ag K2 h s.2.2.2 ∧ rb_hF s.2.2.2 47 2 = bI3 (bO (cQ B) (vQ ρ 1 B) (25 * p + k))) _ 25 ⟨rfl, rfl, rfl, hg, hg2⟩ (by omega) ?_ ?_
  · rintro k ⟨x, y, z, g1⟩ hk ⟨e0, e1, e2, hA, h2⟩
    dsimp only at e0 e1 e2 hA h2 ⊢
    subst e0
    subst e1
    subst e2
    unfold fK_twoMoves_48b fK_twoMoves_131l48
    rw [if_neg (show ¬ (25 : Int32) ≤ nI k from nI_ge (b := 25) hk (by omega)), hu k hk]
    by_cases c : canM B p k = true
    · rw [if_pos c]
      have hc : cQ B (25 * p + k) = true := by rw [cQ_at hp hk]; exact c
      have hne := canM_ne hW hp hk c
      have hW1 := mvB_WF hW hp hk hne
      have R1 := RSn_ag hR hA (by decide)
      have U1 := RuCn_ag hU hA (by decide)
      obtain ⟨g2, a1, a2, a3⟩ := S_copyFrom (o := 196) R1 hW (by omega) (by decide)
      have A2 : Ag K2 h g2 := Ag_trans hA (AgS (by decide) a3)
      obtain ⟨g4, b1, b2, b3⟩ := C_move (o := 196) a2 hW hp hk hne (by decide)
      have A4 : Ag K2 h g4 := Ag_trans A2 (AgS (by decide) b3)
      have U4 := RuCn_ag hU A4 (by decide)
      have hvb := vb2 _ hc
      have bb := bV_bound (v := vQ ρ 1 B) vb2 (25 * p + k)
      have hnx : nxB B (25 * p + k) = mvB B p k := nxB_at hk
      have hv1 : vQ ρ 1 B (25 * p + k) = -e1Q ρ (mvB B p k) := by rw [vQ1_is hW, hnx]
      obtain ⟨w, g5, c1, c2, c3, c4⟩ := C_one (o1 := 196) (ρ := ρ) (Or.inr rfl) b2 hW1 U4 (e := -(bV (bO (cQ B) (vQ ρ 1 B) (25 * p + k)))) (by omega)
      have A5 : Ag K2 h g5 := Ag_trans A4 (AgS (by decide) c2.1)
      rw [a1]
      simp only [Option.bind_some, b1, zI_neg, c1]
      by_cases cl : bV (bO (cQ B) (vQ ρ 1 B) (25 * p + k)) < vQ ρ 1 B (25 * p + k)
      · obtain ⟨w1, w2⟩ : w = e1Q ρ (mvB B p k) ∧ rb_hF g5 47 3 = bI3 (bO (cQ (mvB B p k)) (vQ ρ 0 (mvB B p k)) (25 * bN (mvB B p k))) := by
          rcases c4 with ⟨q1, q2⟩ | q
          · omega
          · exact q
        rw [if_neg (fun z => by rw [zI_le (by omega) (by omega)] at z; omega)]
        have nx := bO_y hc (vb _ hc) cl
        have em : (100 : Int32) * nI p + nI k = nI (mcN (25 * p + k)) := by rw [mcN_at hk, show (100 : Int32) * nI p = nI (100 * p) from pk_mul 100 p, nI_add]
        rw [em, nI_1]
        have A6 : Ag K2 h (rb_sF g5 47 2 (nI (mcN (25 * p + k)))) := Ag_sF (by decide) A5
        have f2 : rb_hF (rb_sF g5 47 2 (nI (mcN (25 * p + k)))) 47 2 = nI (mcN (25 * p + k)) := by rw [hF_sF, if_pos ⟨rfl, rfl⟩]
        have f3 : rb_hF (rb_sF g5 47 2 (nI (mcN (25 * p + k)))) 47 3 = rb_hF g5 47 3 := by rw [hF_sF, if_neg (by decide)]
        refine ⟨_, rfl, ?_, ?_, rfl, A6, ?_⟩
        · show rb_hF (rb_sF g5 47 2 (nI (mcN (25 * p + k)))) 47 3 = aI2 ρ B (bO _ _ (25 * p + k + 1))
          rw [nx, f3, w2]
          show _ = bI3 (bO (cQ (nxB B (25 * p + k))) (vQ ρ 0 (nxB B (25 * p + k))) (25 * bN (nxB B (25 * p + k))))
          rw [hnx]
        · show zI (-w) = zI (bV (bO _ _ (25 * p + k + 1)))
          rw [nx, w1, ← hv1]; rfl
        · show _ = bI3 (bO _ _ (25 * p + k + 1))
          rw [nx]; exact f2
      · rw [if_pos ((zI_le (by omega) (by omega)).mpr (by rcases c4 with ⟨q1, q2⟩ | ⟨q, -⟩ <;> omega)), nI_1]
        have nx := bO_n hc (vb _ hc) cl
        refine ⟨_, rfl, ?_, ?_, rfl, A5, ?_⟩
        · show _ = aI2 ρ B (bO _ _ (25 * p + k + 1))
          rw [nx]
        · show _ = zI (bV (bO _ _ (25 * p + k + 1)))
          rw [nx]
        · show _ = bI3 (bO _ _ (25 * p + k + 1))
          rw [nx, ← h2]
          have z1 : rb_hF g5 47 2 = rb_hF g4 47 2 := c2.2
          exact z1.trans ((AgF b3 (by decide)).trans (AgF a3 (by decide)))
    · rw [if_neg c]
      have hc : cQ B (25 * p + k) = false := by rw [cQ_at hp hk]; exact Bool.eq_false_iff.mpr c
      have nx := bO_x (v := vQ ρ 1 B) hc
      rw [nI_1]
      refine ⟨_, rfl, ?_, ?_, rfl, hA, ?_⟩
      · show _ = aI2 ρ B (bO _ _ (25 * p + k + 1))
        rw [nx]
      · show _ = zI (bV (bO _ _ (25 * p + k + 1)))
        rw [nx]
      · show _ = bI3 (bO _ _ (25 * p + k + 1))
        rw [nx]; exact h2
  · rintro ⟨x, y, z, g1⟩ ⟨e0, e1, e2, hA, h2⟩
    dsimp only at e0 e1 e2 hA h2 ⊢
    subst e0
    subst e1
    subst e2
    unfold fK_twoMoves_48b
    rw [if_pos (by decide)]
    exact ⟨_, rfl, rfl, rfl, hA, h2⟩
end
theorem C_two {h : rb_H} {B : sBd} {ρ : sRu} (hR : RS h 94 B) (hW : WF B) (hU : RuC h 5 ρ) : ∃ h', fK_twoMoves 94 5 h = some (zI (sg (bT B) (ev ρ 2 B).1), h') ∧ Ag K2 h h' ∧ rb_hF h' 47 2 = bI3 (bO (cQ B) (vQ ρ 1 B) (25 * bN B)) ∧ rb_hF h' 47 3 = aI2 ρ B (bO (cQ B) (vQ ρ 1 B) (25 * bN B)) := by
  have h8 := hW.1
  have hT := hW.2.1
  have A0 : Ag K2 h (rb_sF h 47 2 (-1)) := Ag_sF (by decide) (Ag_refl _ _)
  have lp : ∃ x, rb_iter rb_fuel (fun s => fK_twoMoves_15b 94 5 s.1 s.2.1 s.2.2.1 s.2.2.2) ((-1 : Int32), (-10000 : Int32), (0 : Int32), rb_sF h 47 2 (-1)) = some x ∧ (x.1 = aI2 ρ B (bO (cQ B) (vQ ρ 1 B) (25 * bN B)) ∧ x.2.1 = zI (bV (bO (cQ B) (vQ ρ 1 B) (25 * bN B))) ∧ Ag K2 h x.2.2 ∧ rb_hF x.2.2 47 2 = bI3 (bO (cQ B) (vQ ρ 1 B) (25 * bN B))) := by
    refine rb_runP (fun k s => s.1 = aI2 ρ B (bO (cQ B) (vQ ρ 1 B) (25 * k)) ∧ s.2.1 = zI (bV (bO (cQ B) (vQ ρ 1 B) (25 * k))) ∧ s.2.2.1 = nI k ∧ Ag K2 h s.2.2.2 ∧ rb_hF s.2.2.2 47 2 = bI3 (bO (cQ B) (vQ ρ 1 B) (25 * k))) _ (bN B) ⟨rfl, show (-10000 : Int32) = zI (-10000) from by decide, rfl, A0, ?_⟩ (by omega) ?_ ?_
    · show rb_hF (rb_sF h 47 2 (-1)) 47 2 = -1
      rw [hF_sF, if_pos ⟨rfl, rfl⟩]
    · rintro k ⟨x, y, z, g1⟩ hk ⟨e0, e1, e2, hA, h2⟩
      dsimp only at e0 e1 e2 hA h2 ⊢
      subst e0
      subst e1
      subst e2
      have R1 := RSn_ag hR hA (by decide)
      obtain ⟨u, b, o1', o2', o3', o4'⟩ := C_open1 R1 hW hk
      obtain ⟨x, x1, x2, x3, x4, x5⟩ := C_twoIn hR hW hU hk o4' hA h2
      have step : fK_twoMoves_15b 94 5 (aI2 ρ B (bO (cQ B) (vQ ρ 1 B) (25 * k))) (zI (bV (bO (cQ B) (vQ ρ 1 B) (25 * k)))) (nI k) g1 = fK_twoMoves_43l15 94 5 (aI2 ρ B (bO (cQ B) (vQ ρ 1 B) (25 * k))) (zI (bV (bO (cQ B) (vQ ρ 1 B) (25 * k)))) (nI k) u g1 := by
        unfold fK_twoMoves_15b
        rw [R1.1, if_neg (nI_ge hk (by omega)), o1']
        simp only [Option.bind_some]
        cases b
        · rw [if_neg (by decide), o3' rfl]
        · rw [if_pos rfl, o2' rfl]
          rfl
      rw [step]
      unfold fK_twoMoves_43l15
      rw [x1]
      exact ⟨_, rfl, x2, x3, nI_1 k, x4, x5⟩
    · rintro ⟨x, y, z, g1⟩ ⟨e0, e1, e2, hA, h2⟩
      dsimp only at e0 e1 e2 hA h2 ⊢
      subst e0
      subst e1
      subst e2
      have R1 := RSn_ag hR hA (by decide)
      unfold fK_twoMoves_15b
      rw [R1.1, if_pos (nI_le (Nat.le_refl _) (by omega))]
      exact ⟨_, rfl, rfl, rfl, hA, h2⟩
  obtain ⟨⟨y0, y1, g⟩, x1, x2, x3, x4, x5⟩ := lp
  dsimp only at x2 x3 x4 x5
  subst x2
  subst x3
  unfold fK_twoMoves fK_twoMoves_0
  rw [x1]
  simp only [Option.bind_some]
  have A6 : Ag K2 h (rb_sF g 47 3 (aI2 ρ B (bO (cQ B) (vQ ρ 1 B) (25 * bN B)))) := Ag_sF (by decide) x4
  have f2 : rb_hF (rb_sF g 47 3 (aI2 ρ B (bO (cQ B) (vQ ρ 1 B) (25 * bN B)))) 47 2 = bI3 (bO (cQ B) (vQ ρ 1 B) (25 * bN B)) := by rw [hF_sF, if_neg (by decide)]; exact x5
  have f3 : rb_hF (rb_sF g 47 3 (aI2 ρ B (bO (cQ B) (vQ ρ 1 B) (25 * bN B)))) 47 3 = aI2 ρ B (bO (cQ B) (vQ ρ 1 B) (25 * bN B)) := by rw [hF_sF, if_pos ⟨rfl, rfl⟩]
  have R6 := RSn_ag hR A6 (by decide)
  have U6 := RuCn_ag hU A6 (by decide)
  rw [f2, R6.2.1]
  cases eo : bO (cQ B) (vQ ρ 1 B) (25 * bN B) with
  | none =>
    rw [eo] at R6 U6 A6 f2 f3
    obtain ⟨h5, c1, c2⟩ := C_worth (o := 94) (ru := 5) (t := bT B) R6 hW U6 hT (by decide) (by decide) (by omega)
    refine ⟨h5, ?_, Ag_trans A6 (AgS (by decide) c2), (AgF c2 (by decide)).trans f2, (AgF c2 (by decide)).trans f3⟩
    rw [if_neg (show ¬ (0 : Int32) ≤ bI3 none from by decide), c1, ev_none eo]
    rfl
  | some r =>
    rw [eo] at R6 U6 A6 f2 f3
    obtain ⟨r1, r2, r3⟩ := bO_is eo
    have hm : mcN r.2 < 2 ^ 31 := by unfold mcN; omega
    refine ⟨_, ?_, A6, f2, f3⟩
    rw [if_pos (show (0 : Int32) ≤ bI3 (some r) from nI_pos' hm), ev_some eo, sg_sg]
    rfl
/-- the MOVES found, as told -/
theorem ev_list1 {ρ : sRu} {B : sBd} : (ev ρ 1 B).2 = match bO (cQ B) (vQ ρ 0 B) (25 * bN B) with
    | none => []
    | some r => [mcN r.2] := by
  cases eo : bO (cQ B) (vQ ρ 0 B) (25 * bN B) with
  | none => rw [ev_none eo]
  | some r => rw [ev_some eo]; rfl
theorem ev_list2 {ρ : sRu} {B : sBd} : (ev ρ 2 B).2 = match bO (cQ B) (vQ ρ 1 B) (25 * bN B) with
    | none => []
    | some r => mcN r.2 :: (ev ρ 1 (nxB B r.2)).2 := by
  cases eo : bO (cQ B) (vQ ρ 1 B) (25 * bN B) with
  | none => rw [ev_none eo]
  | some r => rw [ev_some eo]
