theorem oNum_0 : ∀ m, m < 9 → ∀ p, p < 11 → oNum m 0 p = 10 ^ m := by decide +kernel
theorem ten_27 : ∀ m, m < 9 → 10 ^ m < 2 ^ 27 ∧ 1 ≤ 10 ^ m := by decide +kernel
theorem oNum_le {m n p : Nat} (hm : m ≤ 8) (hp : p ≤ 10) : oNum m n p ≤ 10 ^ m := by
  rw [← oNum_0 m (by omega) p (by omega)]
  unfold oNum
  refine fb_sm_le (fun j _ => Nat.mul_le_mul_left _ ?_)
  unfold oG
  rw [if_neg (Nat.not_lt_zero j)]
  split
  · exact Nat.zero_le _
  · exact Nat.le_refl _
/-- how many of a side stand -/
def sdN (B : sBd) (t : Nat) : Nat := fb_ct (fun i => decide (bS B i = t) && decide (bP B i ≠ 25)) (bN B)
theorem sdN_le (B : sBd) (t : Nat) : sdN B t ≤ bN B := fb_ct_le _ _
theorem S_standingOf {h : rb_H} {o t : Nat} {B : sBd} (hR : RS h o B) (hW : WF B) (ht : t < 100) : fS_standingOf o (nI t) h = some (nI (sdN B t)) := by
  have h8 := hW.1
  unfold fS_standingOf fS_standingOf_0
  rw [show (8 : Int32) = nI 8 from rfl, S_squaresOf hR hW ht (q := 8) (by omega)]
  simp only [Option.bind_some, rb_lt]
  rw [bc_bits _ (by omega)]
  congr 2
  have e : ∀ s, s < 25 → occ B (fun i => decide (i ≠ 8) && decide (bS B i = t)) s = ((List.range (bN B)).any fun i => (decide (bS B i = t) && decide (bP B i ≠ 25)) && decide (bP B i = s)) := by
    intro s hs
    apply Bool.eq_iff_iff.mpr
    unfold occ
    simp only [Bool.and_eq_true, decide_eq_true_eq, List.any_eq_true, List.mem_range]
    constructor
    · rintro ⟨i, hi, ⟨-, h1⟩, h2⟩
      exact ⟨i, hi, ⟨h1, by omega⟩, h2⟩
    · rintro ⟨i, hi, ⟨h1, -⟩, h2⟩
      exact ⟨i, hi, ⟨by omega, h1⟩, h2⟩
  rw [fb_ct_cong e]
  refine ct_img (bN B) (fun i j hi hj hi2 _ he => ?_) (fun i hi hi2 => ?_)
  · simp only [Bool.and_eq_true, decide_eq_true_eq] at hi2
    exact hW.2.2.2 i j hi hj he hi2.2
  · simp only [Bool.and_eq_true, decide_eq_true_eq] at hi2
    have := (hW.2.2.1 i hi).2.2.1
    omega
theorem M_sideN {h : rb_H} {t : Nat} {B : sBd} (hR : RM h 50 B) (hW : WF B) (ht : t < 100) (v2 v3 : Int32) : rb_iter rb_fuel (fun s => fM_odds_42b (nI t) v2 v3 s.1 s.2 h) ((0 : Int32), (0 : Int32)) = some (nI (sdN B t)) := by
  have h8 := hW.1
  refine rb_run' (fun k => (nI (fb_ct (fun i => decide (bS B i = t) && decide (bP B i ≠ 25)) k), nI k)) (bN B) rfl (by omega) (fun k hk => ?_) ?_
  · show fM_odds_42b _ _ _ (nI (fb_ct (fun i => decide (bS B i = t) && decide (bP B i ≠ 25)) k)) (nI k) h = _
    unfold fM_odds_42b fM_odds_80l42 fM_odds_81l42
    have q : rb_hI h 51 k = nI (bS B k) := (hR.2.2.2.2 k hk).2.1
    have hs := (hW.2.2.1 k hk).2.1
    rw [hR.1, if_neg (nI_ge hk (by omega)), if_neg (oob_n (show k < 8 by omega) (by omega)), cl_n (by omega), q, M_isOut hR hW hk, fb_ct_succ, nI_1]
    simp only [Option.bind_some]
    have z0 : ∀ x : Int32, x + 0 = x := fun x => by rw [← Int32.toBitVec_inj, Int32.toBitVec_add]; exact BitVec.add_zero _
    by_cases c : bS B k = t
    · rw [if_pos (by rw [c])]
      by_cases d : bP B k = 25
      · rw [if_pos (decide_eq_true d), z0]
        simp [c, d]
      · rw [if_neg (by rw [decide_eq_false d]; decide), nI_1]
        simp [c, d]
    · rw [if_neg (fun z => c ((nI_eq (by omega) (by omega)).mp z)), z0]
      simp [c]
  · show fM_odds_42b _ _ _ (nI (fb_ct (fun i => decide (bS B i = t) && decide (bP B i ≠ 25)) (bN B))) (nI (bN B)) h = _
    unfold fM_odds_42b
    rw [hR.1, if_pos (nI_le (Nat.le_refl _) (by omega))]
    rfl
theorem O_odds (x y z : Int32) : rb_op (fB_odds x y z) (fM_odds x y z) := by
  refine rb_op_of (fun σ hσ => ?_)
  have hW := hσ.1
  have h8 := hW.1
  rcases rg_or (n := 1) x (by omega) with ⟨t, ht, rfl⟩ | hx
  · have hside : fB_isSide (nI t) = true := by
      rcases (show t = 0 ∨ t = 1 by omega) with e | e <;> subst e <;> decide
    rcases rg_or (n := 8) y (by omega) with ⟨n, hn, rfl⟩ | hy
    · rcases rg_or (n := 10) z (by omega) with ⟨p, hp, rfl⟩ | hz
      · have hm : sdN (zB σ) t ≤ 8 := Nat.le_trans (sdN_le _ _) h8
        obtain ⟨t1, t2⟩ := ten_27 (sdN (zB σ) t) (by omega)
        have hle := oNum_le (m := sdN (zB σ) t) (n := n) (p := p) hm hp
        have ha : oNum (sdN (zB σ) t) n p < 2 ^ 31 := by omega
        have g1 : 1 ≤ Nat.gcd (oNum (sdN (zB σ) t) n p) (10 ^ sdN (zB σ) t) := Nat.gcd_pos_of_pos_right _ t2
        have g2 : Nat.gcd (oNum (sdN (zB σ) t) n p) (10 ^ sdN (zB σ) t) ≤ 10 ^ sdN (zB σ) t := Nat.gcd_le_right _ t2
        have g0 : ¬ lN (Nat.gcd (oNum (sdN (zB σ) t) n p) (10 ^ sdN (zB σ) t)) = (0 : Int64) := fun z => by
          have := (fb_lN_inj (a := Nat.gcd (oNum (sdN (zB σ) t) n p) (10 ^ sdN (zB σ) t)) (b := 0) (by omega) (by omega)).mp z
          omega
        refine at_row hσ 0 [lN (oNum (sdN (zB σ) t) n p) / lN (Nat.gcd (oNum (sdN (zB σ) t) n p) (10 ^ sdN (zB σ) t)), lN (10 ^ sdN (zB σ) t) / lN (Nat.gcd (oNum (sdN (zB σ) t) n p) (10 ^ sdN (zB σ) t))] (by simp) (fun h hI => ?_) (fun h0 h e hI => ?_)
        · obtain ⟨w, w1, w2, w3⟩ := C_tell1 (lN (oNum (sdN (zB σ) t) n p) / lN (Nat.gcd (oNum (sdN (zB σ) t) n p) (10 ^ sdN (zB σ) t))) (lN (10 ^ sdN (zB σ) t) / lN (Nat.gcd (oNum (sdN (zB σ) t) n p) (10 ^ sdN (zB σ) t))) h
          unfold fB_odds fB_odds_0
          rw [hside, if_pos rfl, if_neg (show ¬ nI n < 0 from nI_nlt (b := 0) (by omega) (by omega)), if_neg (show ¬ (8 : Int32) < nI n from nI_nlt (a := 8) (by omega) (by omega)), if_neg (show ¬ nI p < 0 from nI_nlt (b := 0) (by omega) (by omega)), if_pos (show nI p ≤ (10 : Int32) from nI_le (b := 10) hp (by omega)), S_standingOf hI.1 hW (by omega)]
          simp only [Option.bind_some, C_oddsL hm hn hp, show fB_power (10 : Int64) (nI (sdN (zB σ) t)) = some (lN (10 ^ sdN (zB σ) t)) from power_n (a := 10) (by omega), C_common (k := 27) (by omega) ha t2 t1, if_neg g0, w1]
          exact ⟨_, rfl, w2, AgS (by decide +kernel) w3⟩
        · obtain ⟨w, a1, a2, a3⟩ := M_tell (M_row0 h) (by decide) (lN (oNum (sdN (zB σ) t) n p) / lN (Nat.gcd (oNum (sdN (zB σ) t) n p) (10 ^ sdN (zB σ) t)))
          obtain ⟨w', b1, b2, b3⟩ := M_tell a2 (by simp) (lN (10 ^ sdN (zB σ) t) / lN (Nat.gcd (oNum (sdN (zB σ) t) n p) (10 ^ sdN (zB σ) t)))
          unfold fM_odds fM_odds_0
          rw [← e, M_in_y (n := 1) (M := 1) ht (by omega) rfl, if_pos rfl, M_in_y (n := 8) (M := 8) hn (by omega) rfl, if_pos rfl, M_in_y (n := 10) (M := 10) hp (by omega) rfl, if_pos rfl]
          simp only [M_sideN hI.1 hW (show t < 100 by omega), Option.bind_some, M_tenL hm, M_oddsL hm hn hp, M_common rb_deep (2 * 27) _ _ (by rw [rb_deep_eq]; omega) ha (show 10 ^ sdN (zB σ) t < 2 ^ 31 by omega) (EN_two 27 _ _ t1), if_neg g0, a1, b1]
          exact ⟨_, rfl, b2, Ag_trans (Ag_sF (by decide) (Ag_refl _ _)) (Ag_trans (AgS (by decide +kernel) a3) (AgS (by decide +kernel) b3))⟩
      · refine at_refuse hσ (-1) (fun h hI => ?_) (fun h hI => ?_)
        · unfold fB_odds fB_odds_0
          rw [hside, if_pos rfl, if_neg (show ¬ nI n < 0 from nI_nlt (b := 0) (by omega) (by omega)), if_neg (show ¬ (8 : Int32) < nI n from nI_nlt (a := 8) (by omega) (by omega))]
          rcases hz with hz | ⟨h1, h2⟩
          · rw [if_pos hz]
          · rw [if_neg h1, if_neg (show ¬ z ≤ (10 : Int32) from Int32.not_le.mpr h2)]
        · unfold fM_odds fM_odds_0
          rw [M_in_y (n := 1) (M := 1) ht (by omega) rfl, if_pos rfl, M_in_y (n := 8) (M := 8) hn (by omega) rfl, if_pos rfl, M_in_no (M := 10) hz, if_neg (by decide)]
    · refine at_refuse hσ (-1) (fun h hI => ?_) (fun h hI => ?_)
      · unfold fB_odds fB_odds_0
        rw [hside, if_pos rfl]
        rcases hy with hy | ⟨h1, h2⟩
        · rw [if_pos hy]
        · rw [if_neg h1, if_pos (show (8 : Int32) < y from h2)]
      · unfold fM_odds fM_odds_0
        rw [M_in_y (n := 1) (M := 1) ht (by omega) rfl, if_pos rfl, M_in_no (M := 8) hy, if_neg (by decide)]
  · have hs : fB_isSide x = false := by
      have h0 : ¬ x = 0 := fun e => by subst e; rcases hx with q | ⟨-, q⟩ <;> exact absurd q (by decide)
      have h1 : ¬ x = 1 := fun e => by subst e; rcases hx with q | ⟨-, q⟩ <;> exact absurd q (by decide)
      unfold fB_isSide fB_isSide_0
      rw [if_neg h0, if_neg h1]
    refine at_refuse hσ (-1) (fun h hI => ?_) (fun h hI => ?_)
    · unfold fB_odds fB_odds_0
      rw [hs, if_neg (by decide)]
    · unfold fM_odds fM_odds_0
      rw [M_in_no (M := 1) hx, if_neg (by decide)]
