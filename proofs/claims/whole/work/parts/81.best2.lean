/-! the best MOVE: the class -/
def K1 : List Nat := [7, 10, 47, 202, 203, 204, 205, 206]
theorem C_open1 {h : rb_H} {o : Nat} {B : sBd} (hR : RS h o B) (hW : WF B) {p : Nat} (hp : p < bN B) : ∃ u b, fS_isOnTurn o (nI p) h = some b ∧ (b = true → fS_reach o (nI p) h = some u) ∧ (b = false → u = 0) ∧ ∀ s, s < 25 → fB_holds u (nI s) = canM B p s := by
  have hb := S_isOnTurn_y hR hW hp
  by_cases c : (decide (bP B p ≠ 25) && decide (bS B p = bT B)) = true
  · rw [c] at hb
    have hpl : bP B p ≠ 25 := by
      rw [Bool.and_eq_true, decide_eq_true_eq] at c
      exact c.1
    refine ⟨_, true, hb, fun _ => S_reach_y hR hW hp hpl, fun z => (Bool.noConfusion z), fun s hs => ?_⟩
    rw [holds_bt _ (by omega), bits_bt _ 25 (by omega) s (by omega), decide_eq_true hs, Bool.true_and]
    unfold canM
    rw [c, Bool.true_and]
  · have c' := Bool.eq_false_iff.mpr c
    rw [c'] at hb
    refine ⟨0, false, hb, fun z => (Bool.noConfusion z), fun _ => rfl, fun s hs => ?_⟩
    have hz : fB_holds 0 (nI s) = false := by
      have : ∀ s, s < 25 → fB_holds 0 (nI s) = false := by decide +kernel
      exact this s hs
    rw [hz]
    unfold canM
    rw [c', Bool.false_and]
theorem K1_RS {L : List Nat} {h h' : rb_H} {o : Nat} {B : sBd} (ho : o = 94 ∨ o = 196) (hR : RS h o B) (hA : Ag L h h') (hL : NL [94, 95, 96, 97, 98, 196, 197, 198, 199, 200] L = true) : RS h' o B := by
  refine RS_ag hR hA (by omega) (fun x hx => NL_at hL ?_)
  unfold sIds at hx
  simp only [List.mem_cons, List.not_mem_nil, or_false] at hx ⊢
  omega
def A1 (h h' : rb_H) : Prop := Ag K1 h h' ∧ rb_hF h' 47 2 = rb_hF h 47 2
section
variable {h : rb_H} {o1 : Nat} {B : sBd} {ρ : sRu}
theorem C_oneIn (ho : o1 = 94 ∨ o1 = 196) (hR : RS h o1 B) (hW : WF B) (hU : RuC h 5 ρ) {e : Int} (he : -10000 < e ∧ e ≤ 10000) {p : Nat} (hp : p < bN B) {u : Int32} (hu : ∀ s, s < 25 → fB_holds u (nI s) = canM B p s) {g : rb_H} (hg : A1 h g) (hg3 : rb_hF g 47 3 = bI3 (bO (cQ B) (vQ ρ 0 B) (25 * p))) (hlt : bV (bO (cQ B) (vQ ρ 0 B) (25 * p)) < e) :
    ∃ x, rb_iter rb_fuel (fun s => fK_oneMove_46b o1 5 (zI e) s.1 (nI p) u s.2.1 s.2.2) (zI (bV (bO (cQ B) (vQ ρ 0 B) (25 * p))), (0 : Int32), g) = some x ∧ ((∃ w h', x = Sum.inl (zI w, h') ∧ A1 h h' ∧ e ≤ w ∧ (-792 ≤ w ∧ w ≤ 792) ∧ w ≤ bV (bO (cQ B) (vQ ρ 0 B) (25 * bN B))) ∨ ∃ h', x = Sum.inr (zI (bV (bO (cQ B) (vQ ρ 0 B) (25 * (p + 1)))), h') ∧ A1 h h' ∧ rb_hF h' 47 3 = bI3 (bO (cQ B) (vQ ρ 0 B) (25 * (p + 1))) ∧ bV (bO (cQ B) (vQ ρ 0 B) (25 * (p + 1))) < e) := by
  have h8 := hW.1
  have vb : ∀ k, cQ B k = true → -5000 < vQ ρ 0 B k := fun k hk => by have := vQ_bound (ρ := ρ) (n := 0) hW k hk; omega
  have vb2 : ∀ k, cQ B k = true → -792 ≤ vQ ρ 0 B k ∧ vQ ρ 0 B k ≤ 792 := fun k hk => vQ_bound hW k hk
  have hT := hW.2.1
  refine rb_runE (fun k s => s.1 = zI (bV (bO (cQ B) (vQ ρ 0 B) (25 * p + k))) ∧ s.2.1 = nI k ∧ A1 h s.2.2 ∧ rb_hF s.2.2 47 3 = bI3 (bO (cQ B) (vQ ρ 0 B) (25 * p + k)) ∧ bV (bO (cQ B) (vQ ρ 0 B) (25 * p + k)) < e) _ 25 ⟨rfl, rfl, hg, hg3, hlt⟩ (by omega) ?_ ?_
  · rintro k ⟨y, z, g1⟩ hk ⟨e1, e2, hA, h3, hl⟩
    dsimp only at e1 e2 hA h3 hl ⊢
    subst e1
    subst e2
    unfold fK_oneMove_46b
    rw [if_neg (show ¬ (25 : Int32) ≤ nI k from nI_ge (b := 25) hk (by omega)), hu k hk]
    by_cases c : canM B p k = true
    · rw [if_pos c]
      have hc : cQ B (25 * p + k) = true := by rw [cQ_at hp hk]; exact c
      have hne := canM_ne hW hp hk c
      have hW1 := mvB_WF hW hp hk hne
      have R1 := K1_RS ho hR hA.1 (by decide)
      have U1 := RuCn_ag hU hA.1 (by decide)
      obtain ⟨h2, a1, a2, a3⟩ := S_copyFrom (o := 202) R1 hW (by omega) (by decide)
      have A2 : Ag K1 h h2 := Ag_trans hA.1 (AgS (by decide) a3)
      obtain ⟨h4, b1, b2, b3⟩ := C_move (o := 202) a2 hW hp hk hne (by decide)
      have A4 : Ag K1 h h4 := Ag_trans A2 (AgS (by decide) b3)
      have U4 := RuCn_ag hU A4 (by decide)
      obtain ⟨h5, c1, c2⟩ := C_worth (o := 202) (ru := 5) (t := bT B) b2 hW1 U4 hT (by decide) (by decide) (by omega)
      have A5 : Ag K1 h h5 := Ag_trans A4 (AgS (by decide) c2)
      have h53 : rb_hF h5 47 3 = rb_hF g1 47 3 := (AgF c2 (by decide)).trans ((AgF b3 (by decide)).trans (AgF a3 (by decide)))
      have h52 : rb_hF h5 47 2 = rb_hF h 47 2 := ((AgF c2 (by decide)).trans ((AgF b3 (by decide)).trans (AgF a3 (by decide)))).trans hA.2
      have R4 := K1_RS ho hR A4 (by decide)
      have hv : sg (bT B) (woM ρ (mvB B p k)) = vQ ρ 0 B (25 * p + k) := by
        unfold vQ
        rw [nxB_at hk]
        rfl
      have hvb := vb2 _ hc
      rw [hv] at c1
      rw [a1]
      simp only [Option.bind_some, b1, R4.2.1, c1]
      have bb := bV_bound (v := vQ ρ 0 B) vb2 (25 * p + k)
      by_cases cl : bV (bO (cQ B) (vQ ρ 0 B) (25 * p + k)) < vQ ρ 0 B (25 * p + k)
      · rw [if_neg (fun z => by rw [zI_le (by omega) (by omega)] at z; omega)]
        have nx := bO_y hc (vb _ hc) cl
        have em : (100 : Int32) * nI p + nI k = nI (mcN (25 * p + k)) := by rw [mcN_at hk, show (100 : Int32) * nI p = nI (100 * p) from pk_mul 100 p, nI_add]
        have A6 : A1 h (rb_sF h5 47 3 (nI (mcN (25 * p + k)))) := ⟨Ag_sF (by decide) A5, by rw [hF_sF, if_neg (by decide)]; exact h52⟩
        unfold fK_oneMove_123l46 fK_oneMove_132l46
        by_cases ce : vQ ρ 0 B (25 * p + k) < e
        · rw [if_pos ((zI_lt (by omega) (by omega)).mpr ce), em, nI_1]
          refine Or.inl ⟨_, rfl, ?_, rfl, A6, ?_, ?_⟩
          · show _ = zI (bV (bO _ _ (25 * p + k + 1)))
            rw [nx]; rfl
          · show _ = bI3 (bO _ _ (25 * p + k + 1))
            rw [nx]
            show (rb_hF (rb_sF h5 47 3 (nI (mcN (25 * p + k)))) 47 3) = nI (mcN (25 * p + k))
            rw [hF_sF, if_pos ⟨rfl, rfl⟩]
          · show bV (bO _ _ (25 * p + k + 1)) < e
            rw [nx]; exact ce
        · rw [if_neg (fun z => ce ((zI_lt (by omega) (by omega)).mp z)), em]
          refine Or.inr ⟨_, rfl, Or.inl ⟨_, _, rfl, A6, by omega, hvb, ?_⟩⟩
          have m := bV_mono (v := vQ ρ 0 B) vb (25 * p + k + 1) (25 * bN B - (25 * p + k + 1))
          rw [show 25 * p + k + 1 + (25 * bN B - (25 * p + k + 1)) = 25 * bN B by omega, nx] at m
          exact m
      · rw [if_pos ((zI_le (by omega) (by omega)).mpr (by omega))]
        have nx := bO_n hc (vb _ hc) cl
        unfold fK_oneMove_123l46 fK_oneMove_132l46
        rw [if_pos ((zI_lt (by omega) (by omega)).mpr hl), nI_1]
        refine Or.inl ⟨_, rfl, ?_, rfl, ⟨A5, h52⟩, ?_, ?_⟩
        · show _ = zI (bV (bO _ _ (25 * p + k + 1)))
          rw [nx]
        · show _ = bI3 (bO _ _ (25 * p + k + 1))
          rw [nx, ← h3]; exact h53
        · show bV (bO _ _ (25 * p + k + 1)) < e
          rw [nx]; exact hl
    · rw [if_neg c]
      have hc : cQ B (25 * p + k) = false := by rw [cQ_at hp hk]; exact Bool.eq_false_iff.mpr c
      have nx := bO_x (v := vQ ρ 0 B) hc
      unfold fK_oneMove_132l46
      rw [nI_1]
      refine Or.inl ⟨_, rfl, ?_, rfl, hA, ?_, ?_⟩
      · show _ = zI (bV (bO _ _ (25 * p + k + 1)))
        rw [nx]
      · show _ = bI3 (bO _ _ (25 * p + k + 1))
        rw [nx]; exact h3
      · show bV (bO _ _ (25 * p + k + 1)) < e
        rw [nx]; exact hl
  · rintro ⟨y, z, g1⟩ ⟨e1, e2, hA, h3, hl⟩
    dsimp only at e1 e2 hA h3 hl ⊢
    subst e1
    subst e2
    unfold fK_oneMove_46b
    rw [if_pos (by decide)]
    exact ⟨_, rfl, Or.inr ⟨g1, rfl, hA, h3, hl⟩⟩
/-- what looking one MOVE ahead is worth to the SIDE on TURN -/
def e1Q (ρ : sRu) (B : sBd) : Int := sg (bT B) (ev ρ 1 B).1
theorem e1Q_none (e : bO (cQ B) (vQ ρ 0 B) (25 * bN B) = none) : e1Q ρ B = sg (bT B) (woM ρ B) := by
  unfold e1Q
  rw [ev_none e]
theorem e1Q_some {r : Int × Nat} (e : bO (cQ B) (vQ ρ 0 B) (25 * bN B) = some r) : e1Q ρ B = r.1 := by
  unfold e1Q
  rw [ev_some e]
  exact sg_sg _ _
theorem e1Q_bound (hW : WF B) : -792 ≤ e1Q ρ B ∧ e1Q ρ B ≤ 792 := sg_bound (ev_bound 1 B hW)
theorem C_one (ho : o1 = 94 ∨ o1 = 196) (hR : RS h o1 B) (hW : WF B) (hU : RuC h 5 ρ) {e : Int} (he : -10000 < e ∧ e ≤ 10000) : ∃ w h', fK_oneMove o1 5 (zI e) h = some (zI w, h') ∧ A1 h h' ∧ (-792 ≤ w ∧ w ≤ 792) ∧ ((e ≤ w ∧ e ≤ e1Q ρ B) ∨ (w = e1Q ρ B ∧ rb_hF h' 47 3 = bI3 (bO (cQ B) (vQ ρ 0 B) (25 * bN B)))) := by
  have h8 := hW.1
  have hT := hW.2.1
  have A0 : A1 h (rb_sF h 47 3 (-1)) := ⟨Ag_sF (by decide) (Ag_refl _ _), by rw [hF_sF, if_neg (by decide)]⟩
  have lp : ∃ x, rb_iter rb_fuel (fun s => fK_oneMove_13b o1 5 (zI e) s.1 s.2.1 s.2.2) ((-10000 : Int32), (0 : Int32), rb_sF h 47 3 (-1)) = some x ∧ ((∃ w h', x = Sum.inl (zI w, h') ∧ A1 h h' ∧ e ≤ w ∧ (-792 ≤ w ∧ w ≤ 792) ∧ w ≤ bV (bO (cQ B) (vQ ρ 0 B) (25 * bN B))) ∨ ∃ h', x = Sum.inr (zI (bV (bO (cQ B) (vQ ρ 0 B) (25 * bN B))), h') ∧ A1 h h' ∧ rb_hF h' 47 3 = bI3 (bO (cQ B) (vQ ρ 0 B) (25 * bN B)) ∧ bV (bO (cQ B) (vQ ρ 0 B) (25 * bN B)) < e) := by
    refine rb_runE (fun k s => s.1 = zI (bV (bO (cQ B) (vQ ρ 0 B) (25 * k))) ∧ s.2.1 = nI k ∧ A1 h s.2.2 ∧ rb_hF s.2.2 47 3 = bI3 (bO (cQ B) (vQ ρ 0 B) (25 * k)) ∧ bV (bO (cQ B) (vQ ρ 0 B) (25 * k)) < e) _ (bN B) ⟨show (-10000 : Int32) = zI (-10000) from by decide, rfl, A0, ?_, ?_⟩ (by omega) ?_ ?_
    · show rb_hF (rb_sF h 47 3 (-1)) 47 3 = -1
      rw [hF_sF, if_pos ⟨rfl, rfl⟩]
    · show (-10000 : Int) < e
      omega
    · rintro k ⟨y, z, g1⟩ hk ⟨e1, e2, hA, h3, hl⟩
      dsimp only at e1 e2 hA h3 hl ⊢
      subst e1
      subst e2
      have R1 := K1_RS ho hR hA.1 (by decide)
      obtain ⟨u, b, o1', o2', o3', o4'⟩ := C_open1 R1 hW hk
      obtain ⟨x, x1, x2⟩ := C_oneIn ho hR hW hU he hk o4' hA h3 hl
      have step : fK_oneMove_13b o1 5 (zI e) (zI (bV (bO (cQ B) (vQ ρ 0 B) (25 * k)))) (nI k) g1 = fK_oneMove_41l13 o1 5 (zI e) (zI (bV (bO (cQ B) (vQ ρ 0 B) (25 * k)))) (nI k) u g1 := by
        unfold fK_oneMove_13b
        rw [R1.1, if_neg (nI_ge hk (by omega)), o1']
        simp only [Option.bind_some]
        cases b
        · rw [if_neg (by decide), o3' rfl]
        · rw [if_pos rfl, o2' rfl]
          rfl
      rw [step]
      unfold fK_oneMove_41l13
      rw [x1]
      rcases x2 with ⟨w, h', rfl, q⟩ | ⟨h', rfl, q1, q2, q3⟩
      · exact Or.inr ⟨_, rfl, Or.inl ⟨w, h', rfl, q⟩⟩
      · exact Or.inl ⟨_, rfl, rfl, nI_1 k, q1, q2, q3⟩
    · rintro ⟨y, z, g1⟩ ⟨e1, e2, hA, h3, hl⟩
      dsimp only at e1 e2 hA h3 hl ⊢
      subst e1
      subst e2
      have R1 := K1_RS ho hR hA.1 (by decide)
      unfold fK_oneMove_13b
      rw [R1.1, if_pos (nI_le (Nat.le_refl _) (by omega))]
      exact ⟨_, rfl, Or.inr ⟨g1, rfl, hA, h3, hl⟩⟩
  obtain ⟨x, x1, x2⟩ := lp
  unfold fK_oneMove fK_oneMove_0
  rw [x1]
  have vb2 : ∀ k, cQ B k = true → -792 ≤ vQ ρ 0 B k ∧ vQ ρ 0 B k ≤ 792 := fun k hk => vQ_bound hW k hk
  rcases x2 with ⟨w, h', rfl, q1, q2, q3, q4⟩ | ⟨h', rfl, q1, q2, q3⟩
  · refine ⟨w, h', rfl, q1, q3, Or.inl ⟨q2, ?_⟩⟩
    cases eo : bO (cQ B) (vQ ρ 0 B) (25 * bN B) with
    | none =>
      rw [eo] at q4
      have : w ≤ -10000 := q4
      omega
    | some r =>
      rw [eo] at q4
      rw [e1Q_some eo]
      have : w ≤ r.1 := q4
      omega
  · cases eo : bO (cQ B) (vQ ρ 0 B) (25 * bN B) with
    | none =>
      rw [eo] at q2 q3
      have q2' : rb_hF h' 47 3 = -1 := q2
      have R1 := K1_RS ho hR q1.1 (by decide)
      obtain ⟨h5, c1, c2⟩ := C_worth (o := o1) (ru := 5) (t := bT B) R1 hW (RuCn_ag hU q1.1 (by decide)) hT (by omega) (by decide) (by omega)
      have hq : rb_hF h5 47 3 = -1 := (AgF c2 (by decide)).trans q2'
      refine ⟨e1Q ρ B, h5, ?_, ⟨Ag_trans q1.1 (AgS (by decide) c2), (AgF c2 (by decide)).trans q1.2⟩, e1Q_bound hW, Or.inr ⟨rfl, hq⟩⟩
      show (if (0 : Int32) ≤ rb_hF h' 47 3 then _ else (fS_worthBehindDay o1 5 (rb_hF h' o1 6) h').bind _) = _
      rw [q2', if_neg (by decide), R1.2.1, c1, e1Q_none eo]
      rfl
    | some r =>
      rw [eo] at q2
      have q2' : rb_hF h' 47 3 = nI (mcN r.2) := q2
      obtain ⟨r1, r2, r3⟩ := bO_is eo
      have hm : mcN r.2 < 2 ^ 31 := by unfold mcN; omega
      have rb := vb2 _ r2
      refine ⟨r.1, h', ?_, q1, by rw [r3]; exact rb, Or.inr ⟨(e1Q_some eo).symm, q2⟩⟩
      show (if (0 : Int32) ≤ rb_hF h' 47 3 then _ else _) = _
      rw [q2', if_pos (nI_pos' hm)]
      rfl
end
