/-! lines -/
def freeB (B : sBd) (s : Nat) : Prop := ∀ i, i < bN B → bP B i ≠ s
theorem who_free {B : sBd} {s : Nat} : who B s = bN B ↔ freeB B s := by
  unfold who freeB
  rw [fst1_none]
  constructor
  · intro h i hi
    simpa using h i hi
  · intro h i hi
    simpa using h i hi
theorem su_in {X : List Nat} (hc : ∀ c, c ∈ X → c < 256) (q : Nat) : (fB_suits (nI (X.getD q 0)) 97 = true ↔ sgIn X q 97 5) ∧ (fB_suits (nI (X.getD q 0)) 49 = true ↔ sgIn X q 49 5) ∧ (fB_suits (nI (X.getD q 0)) 48 = true ↔ sgIn X q 48 10) := by
  have h := sg_lt hc q
  rw [su_97 _ h, su_49 _ h, su_48 _ h]
  unfold sgIn
  simp only [Bool.and_eq_true, decide_eq_true_eq]
  omega
section
variable {X : List Nat} {B : sBd} {h : rb_H} {p : Nat}
theorem lf_step (hT : TXc h X) (hX : rp_X X 47) (hp : p ≤ 42) {i : Nat} (hi : i < 4) : fB_lineFault_32b (nI p) (nI i) h = if fB_suits (nI (X.getD (p + 1 + i) 0)) (nI ([97, 49, 48, 48].getD i 0)) = true then if nI i = 1 then (fT_squareAt (nI (p + 1)) h).bind fun u13 => (fS_whoStandsOn 106 u13 h).bind fun u15 => if u15 = 8 then some (.inl (nI (i + 1))) else some (.inr (.inr (.inl ()))) else some (.inl (nI (i + 1))) else some (.inr (.inl (nI i))) := by
  unfold fB_lineFault_32b fB_lineFault_102l32
  rw [len_shape, Option.bind_some, if_neg (show ¬ (4 : Int32) ≤ nI i from nI_ge (b := 4) hi (by omega)), nI_1, nI_add, at_any hT hX.1 hX.2.1 (by omega), Option.bind_some, ch_at, ch_shape i hi, Option.bind_some, nI_1]
theorem lf_end : fB_lineFault_32b (nI p) (nI 4) h = some (.inr (.inr (.inr ()))) := by
  unfold fB_lineFault_32b
  rw [len_shape, Option.bind_some, if_pos (by decide)]
theorem lf_head (hT : TXc h X) (hX : rp_X X 47) (hR : RS h 106 B) (h8 : bN B < 8) (hp : p ≤ 42) (hl : letN (X.getD p 0) ≠ 12) : fB_lineFault (nI p) h = (rb_iter rb_fuel (fun s => fB_lineFault_32b (nI p) s h) (0 : Int32)).bind (Sum.elim (fun x19 => some (nI (p + 1) + x19)) (Sum.elim (fun x20 => some (nI (p + 1))) (fun x21 => some (-1)))) := by
  unfold fB_lineFault fB_lineFault_0
  have := letN_le (X.getD p 0)
  rw [hR.1, if_neg (show ¬ (8 : Int32) ≤ nI (bN B) from nI_ge (b := 8) h8 (by omega)), at_any hT hX.1 hX.2.1 (by omega), Option.bind_some, rp_ixL (sg_lt hX.2.1 p), Option.bind_some, if_neg hl, if_pos (nI_pos' (by omega)), nI_1]
theorem lf_none (hT : TXc h X) (hX : rp_X X 47) (hR : RS h 106 B) (h8 : bN B < 8) (hp : p ≤ 42) (hl : letN (X.getD p 0) = 12) : fB_lineFault (nI p) h = some (nI p) := by
  unfold fB_lineFault fB_lineFault_0
  rw [hR.1, if_neg (show ¬ (8 : Int32) ≤ nI (bN B) from nI_ge (b := 8) h8 (by omega)), at_any hT hX.1 hX.2.1 (by omega), Option.bind_some, rp_ixL (sg_lt hX.2.1 p), Option.bind_some, if_pos hl, if_neg (by decide)]
theorem fuel5 : rb_fuel = 4294967290 + 1 + 1 + 1 + 1 + 1 + 1 := by rw [rb_fuel_eq]
/-- the class's look at a line -/
theorem C_line (hT : TXc h X) (hX : rp_X X 47) (hR : RS h 106 B) (hW : WF B) (h8 : bN B < 8) (hp : p ≤ 42) (hl : letN (X.getD p 0) ≠ 12) :
    (¬ sgIn X (p + 1) 97 5 → fB_lineFault (nI p) h = some (nI (p + 1))) ∧
    (sgIn X (p + 1) 97 5 → ¬ sgIn X (p + 2) 49 5 → fB_lineFault (nI p) h = some (nI (p + 2))) ∧
    (sgIn X (p + 1) 97 5 → sgIn X (p + 2) 49 5 → ¬ freeB B ((X.getD (p + 1) 0 - 97) + 5 * (X.getD (p + 2) 0 - 49)) → fB_lineFault (nI p) h = some (nI (p + 1))) ∧
    (sgIn X (p + 1) 97 5 → sgIn X (p + 2) 49 5 → freeB B ((X.getD (p + 1) 0 - 97) + 5 * (X.getD (p + 2) 0 - 49)) → ¬ sgIn X (p + 3) 48 10 → fB_lineFault (nI p) h = some (nI (p + 3))) ∧
    (sgIn X (p + 1) 97 5 → sgIn X (p + 2) 49 5 → freeB B ((X.getD (p + 1) 0 - 97) + 5 * (X.getD (p + 2) 0 - 49)) → sgIn X (p + 3) 48 10 → ¬ sgIn X (p + 4) 48 10 → fB_lineFault (nI p) h = some (nI (p + 4))) ∧
    (sgIn X (p + 1) 97 5 → sgIn X (p + 2) 49 5 → freeB B ((X.getD (p + 1) 0 - 97) + 5 * (X.getD (p + 2) 0 - 49)) → sgIn X (p + 3) 48 10 → sgIn X (p + 4) 48 10 → fB_lineFault (nI p) h = some (-1)) := by
  have s0 := lf_step hT hX hp (i := 0) (by omega)
  have s1 := lf_step hT hX hp (i := 1) (by omega)
  have s2 := lf_step hT hX hp (i := 2) (by omega)
  have s3 := lf_step hT hX hp (i := 3) (by omega)
  have s4 := lf_end (h := h) (p := p)
  have t1 : fB_suits (nI (X.getD (p + 1 + 0) 0)) (nI ([97, 49, 48, 48].getD 0 0)) = true ↔ sgIn X (p + 1) 97 5 := (su_in hX.2.1 (p + 1)).1
  have t2 : fB_suits (nI (X.getD (p + 1 + 1) 0)) (nI ([97, 49, 48, 48].getD 1 0)) = true ↔ sgIn X (p + 2) 49 5 := (su_in hX.2.1 (p + 2)).2.1
  have t3 : fB_suits (nI (X.getD (p + 1 + 2) 0)) (nI ([97, 49, 48, 48].getD 2 0)) = true ↔ sgIn X (p + 3) 48 10 := (su_in hX.2.1 (p + 3)).2.2
  have t4 : fB_suits (nI (X.getD (p + 1 + 3) 0)) (nI ([97, 49, 48, 48].getD 3 0)) = true ↔ sgIn X (p + 4) 48 10 := (su_in hX.2.1 (p + 4)).2.2
  have y0 : sgIn X (p + 1) 97 5 → fB_lineFault_32b (nI p) (nI 0) h = some (.inl (nI 1)) := fun z => by
    rw [s0, if_pos (t1.mpr z), if_neg (by decide)]
  have n0 : ¬ sgIn X (p + 1) 97 5 → fB_lineFault_32b (nI p) (nI 0) h = some (.inr (.inl (nI 0))) := fun z => by
    rw [s0, if_neg (fun y => z (t1.mp y))]
  have n1 : ¬ sgIn X (p + 2) 49 5 → fB_lineFault_32b (nI p) (nI 1) h = some (.inr (.inl (nI 1))) := fun z => by
    rw [s1, if_neg (fun y => z (t2.mp y))]
  have q1 : sgIn X (p + 1) 97 5 → sgIn X (p + 2) 49 5 → fB_lineFault_32b (nI p) (nI 1) h = if who B ((X.getD (p + 1) 0 - 97) + 5 * (X.getD (p + 2) 0 - 49)) < bN B then some (.inr (.inr (.inl ()))) else some (.inl (nI 2)) := fun z y => by
    have sq : fT_squareAt (nI (p + 1)) h = some (nI ((X.getD (p + 1) 0 - 97) + 5 * (X.getD (p + 2) 0 - 49))) := squareAt_n hT hX.1 hX.2.1 (by omega) z.1 y.1
    rw [s1, if_pos (t2.mpr y), if_pos (by decide), sq, Option.bind_some, S_who hR hW (by unfold sgIn at z y; omega), Option.bind_some]
    by_cases u : who B ((X.getD (p + 1) 0 - 97) + 5 * (X.getD (p + 2) 0 - 49)) < bN B
    · rw [if_pos u, if_pos u, if_neg (fun v => by have := (nI_eq (b := 8) (show who B ((X.getD (p + 1) 0 - 97) + 5 * (X.getD (p + 2) 0 - 49)) < 2 ^ 31 by omega) (by omega)).mp v; omega)]
    · rw [if_neg u, if_neg u, if_pos (by decide)]
  have y2 : sgIn X (p + 3) 48 10 → fB_lineFault_32b (nI p) (nI 2) h = some (.inl (nI 3)) := fun z => by
    rw [s2, if_pos (t3.mpr z), if_neg (by decide)]
  have n2 : ¬ sgIn X (p + 3) 48 10 → fB_lineFault_32b (nI p) (nI 2) h = some (.inr (.inl (nI 2))) := fun z => by
    rw [s2, if_neg (fun y => z (t3.mp y))]
  have y3 : sgIn X (p + 4) 48 10 → fB_lineFault_32b (nI p) (nI 3) h = some (.inl (nI 4)) := fun z => by
    rw [s3, if_pos (t4.mpr z), if_neg (by decide)]
  have n3 : ¬ sgIn X (p + 4) 48 10 → fB_lineFault_32b (nI p) (nI 3) h = some (.inr (.inl (nI 3))) := fun z => by
    rw [s3, if_neg (fun y => z (t4.mp y))]
  have wl : ∀ s, who B s ≤ bN B := fun s => fst1_le _ _
  rw [lf_head hT hX hR h8 hp hl, fuel5, show (0 : Int32) = nI 0 from rfl]
  refine ⟨fun a => ?_, fun a b => ?_, fun a b c => ?_, fun a b c d => ?_, fun a b c d e => ?_, fun a b c d e => ?_⟩
  · rw [rb_iter_inr (n0 a), Option.bind_some]
    exact congrArg some (nI_add _ _)
  · rw [rb_iter_inl (y0 a), rb_iter_inr (n1 b), Option.bind_some]
    exact congrArg some (nI_add _ _)
  · have e := q1 a b
    have ne : who B ((X.getD (p + 1) 0 - 97) + 5 * (X.getD (p + 2) 0 - 49)) ≠ bN B := fun z => c (who_free.mp z)
    rw [if_pos (by have := wl ((X.getD (p + 1) 0 - 97) + 5 * (X.getD (p + 2) 0 - 49)); omega)] at e
    rw [rb_iter_inl (y0 a), rb_iter_inr e, Option.bind_some]
    rfl
  · have e := q1 a b
    rw [if_neg (by rw [who_free.mpr c]; omega)] at e
    rw [rb_iter_inl (y0 a), rb_iter_inl e, rb_iter_inr (n2 d), Option.bind_some]
    exact congrArg some (nI_add _ _)
  · have e' := q1 a b
    rw [if_neg (by rw [who_free.mpr c]; omega)] at e'
    rw [rb_iter_inl (y0 a), rb_iter_inl e', rb_iter_inl (y2 d), rb_iter_inr (n3 e), Option.bind_some]
    exact congrArg some (nI_add _ _)
  · have e' := q1 a b
    rw [if_neg (by rw [who_free.mpr c]; omega)] at e'
    rw [rb_iter_inl (y0 a), rb_iter_inl e', rb_iter_inl (y2 d), rb_iter_inl (y3 e), rb_iter_inr s4, Option.bind_some]
    rfl
end
/-! the model's look at a line -/
def toldN (h : rb_H) (N n : Nat) (B : sBd) : Prop := ∀ k, k < n → rb_hI h 54 (4 * k) = nI (bK B (N + k)) ∧ rb_hI h 54 (4 * k + 1) = nI (bS B (N + k)) ∧ rb_hI h 54 (4 * k + 2) = nI (bP B (N + k)) ∧ rb_hI h 54 (4 * k + 3) = nI (bU B (N + k))
theorem n4 (k : Nat) : (4 : Int32) * nI k = nI (4 * k) := pk_mul 4 k
/-- whether a square is among those that were told -/
theorem M_told {h : rb_H} {N n s : Nat} {B : sBd} (ht : toldN h N n B) (hP : ∀ k, k < n → bP B (N + k) ≤ 25) (hn : n ≤ 7) (hs : s < 25) (t0 : Int32) (c p : Int32) : rb_iter rb_fuel (fun x => fM_readPiece_134b (nI n) p (nI s) x.1 x.2 h) (t0, (0 : Int32)) = some (if t0 = 0 ∧ ∀ k, k < n → bP B (N + k) ≠ s then 0 else if t0 = 0 then 1 else if n = 0 then t0 else 1) := by
  have main : ∃ x, rb_iter rb_fuel (fun x => fM_readPiece_134b (nI n) p (nI s) x.1 x.2 h) (t0, (0 : Int32)) = some x ∧ (x = if t0 = 0 ∧ ∀ k, k < n → bP B (N + k) ≠ s then 0 else if t0 = 0 then 1 else if n = 0 then t0 else 1) := by
    refine rb_runP (fun m x => x.1 = (if t0 = 0 ∧ ∀ k, k < m → bP B (N + k) ≠ s then 0 else if t0 = 0 then 1 else if m = 0 then t0 else 1) ∧ x.2 = nI m) _ n ⟨?_, rfl⟩ (by omega) ?_ ?_
    · dsimp only
      by_cases z : t0 = 0
      · rw [if_pos ⟨z, fun k hk => absurd hk (Nat.not_lt_zero _)⟩, z]
      · rw [if_neg (fun y => z y.1), if_neg z, if_pos rfl]
    · rintro m ⟨x1, x2⟩ hm ⟨e1, e2⟩
      dsimp only at e1 e2 ⊢
      subst e2
      unfold fM_readPiece_134b fM_readPiece_161l134 fM_readPiece_166l134
      rw [if_neg (nI_ge hm (by omega)), n4, show nI (4 * m) + 2 = nI (4 * m + 2) from nI_add _ 2, if_neg (oob_n (show 4 * m + 2 < 32 by omega) (by omega)), cl_n (by omega), (ht m hm).2.2.1, nI_1]
      have hp := hP m hm
      by_cases z : t0 = 0
      · by_cases y : ∀ k, k < m → bP B (N + k) ≠ s
        · rw [if_pos ⟨z, y⟩] at e1
          subst e1
          rw [if_pos rfl]
          by_cases u : bP B (N + m) = s
          · rw [if_pos (by rw [u])]
            refine ⟨_, rfl, ?_, rfl⟩
            rw [if_neg (fun v => v.2 m (Nat.lt_succ_self m) u), if_pos z]
          · rw [if_neg (fun v => u ((nI_eq (by omega) (by omega)).mp v))]
            refine ⟨_, rfl, ?_, rfl⟩
            rw [if_pos ⟨z, fun k hk => by
              by_cases w : k = m
              · rw [w]; exact u
              · exact y k (by omega)⟩]
        · rw [if_neg (fun v => y v.2), if_pos z] at e1
          subst e1
          rw [if_neg (by decide)]
          refine ⟨_, rfl, ?_, rfl⟩
          rw [if_neg (fun v => y (fun k hk => v.2 k (by omega))), if_pos z]
      · have e1' : x1 ≠ 0 := by
          rw [e1, if_neg (fun v => z v.1), if_neg z]
          by_cases w : m = 0
          · rw [if_pos w]; exact z
          · rw [if_neg w]; decide
        rw [if_neg e1']
        refine ⟨_, rfl, ?_, rfl⟩
        rw [if_neg (fun v => z v.1), if_neg z, if_neg (by omega)]
    · rintro ⟨x1, x2⟩ ⟨e1, e2⟩
      dsimp only at e1 e2 ⊢
      subst e2
      unfold fM_readPiece_134b
      rw [if_pos (nI_le (Nat.le_refl _) (by omega))]
      exact ⟨_, rfl, e1⟩
  obtain ⟨x, m1, m2⟩ := main
  rw [m1, m2]
