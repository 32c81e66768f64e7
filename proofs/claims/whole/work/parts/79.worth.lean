/-! worth -/
def zI (z : Int) : Int32 := Int32.ofInt z
theorem zI_T {z : Int} (h : -1073741824 ≤ z) (h2 : z < 1073741824) : (zI z).toInt = z := by
  unfold zI
  rw [Int32.toInt_ofInt]
  have e : (Int32.size : Int) = 4294967296 := rfl
  exact Int.bmod_eq_of_le (by omega) (by omega)
theorem nI_z {n : Nat} (h : n < 2 ^ 30) : nI n = zI n := by
  apply Int32.toInt_inj.mp
  rw [nI_toInt (by omega), zI_T (by omega) (by omega)]
theorem zI_lt {a b : Int} (ha : -1000000 ≤ a ∧ a < 1000000) (hb : -1000000 ≤ b ∧ b < 1000000) : zI a < zI b ↔ a < b := by
  rw [Int32.lt_iff_toInt_lt, zI_T (by omega) (by omega), zI_T (by omega) (by omega)]
theorem zI_le {a b : Int} (ha : -1000000 ≤ a ∧ a < 1000000) (hb : -1000000 ≤ b ∧ b < 1000000) : zI a ≤ zI b ↔ a ≤ b := by
  rw [Int32.le_iff_toInt_le, zI_T (by omega) (by omega), zI_T (by omega) (by omega)]
theorem zI_add (a b : Int) : zI a + zI b = zI (a + b) := (Int32.ofInt_add a b).symm
theorem zI_sub (a b : Int) : zI a - zI b = zI (a - b) := (Int32.ofInt_sub a b).symm
theorem zI_neg (a : Int) : -(zI a) = zI (-a) := (Int32.ofInt_neg a).symm
def sg (t : Nat) (z : Int) : Int := if t = 0 then z else -z
def woL (ρ : sRu) (B : sBd) (t i : Nat) : Int := if bS B i = t then (bU (qdB ρ B) i : Int) else -(bU (qdB ρ B) i : Int)
def woM (ρ : sRu) (B : sBd) : Int := fb_si (woL ρ B 0) (bN B)
theorem woL_one {ρ : sRu} {B : sBd} {i : Nat} (hs : bS B i ≤ 1) : woL ρ B 1 i = -woL ρ B 0 i := by
  unfold woL
  rcases (show bS B i = 0 ∨ bS B i = 1 by omega) with e | e <;> rw [e]
  · rw [if_neg (by decide), if_pos rfl]
  · rw [if_pos rfl, if_neg (by decide)]; omega
theorem woL_sg {ρ : sRu} {B : sBd} {t : Nat} (ht : t ≤ 1) : ∀ n, (∀ i, i < n → bS B i ≤ 1) → fb_si (woL ρ B t) n = sg t (fb_si (woL ρ B 0) n) := by
  intro n
  induction n with
  | zero => intro _; unfold sg; split <;> rfl
  | succ n ih =>
    intro hs
    rw [fb_si_succ, fb_si_succ, ih (fun i hi => hs i (by omega))]
    rcases (show t = 0 ∨ t = 1 by omega) with e | e <;> subst e
    · rfl
    · rw [woL_one (hs n (by omega))]
      unfold sg
      rw [if_neg (by decide), if_neg (by decide)]
      omega
theorem woL_bound {ρ : sRu} {B : sBd} (hW : WF B) (t : Nat) : ∀ n, n ≤ bN B → -99 * (n : Int) ≤ fb_si (woL ρ B t) n ∧ fb_si (woL ρ B t) n ≤ 99 * (n : Int) := by
  intro n
  induction n with
  | zero => intro _; show -99 * ((0 : Nat) : Int) ≤ 0 ∧ 0 ≤ 99 * ((0 : Nat) : Int); omega
  | succ n ih =>
    intro hn
    have := ih (by omega)
    have hu := ((qdB_WF (ρ := ρ) hW).2.2.1 n (by show n < bN B; omega)).2.2.2
    rw [fb_si_succ]
    have hb : woL ρ B t n = (bU (qdB ρ B) n : Int) ∨ woL ρ B t n = -(bU (qdB ρ B) n : Int) := by
      unfold woL
      split
      · exact Or.inl rfl
      · exact Or.inr rfl
    rcases hb with e | e <;> rw [e] <;> omega
theorem woM_bound {ρ : sRu} {B : sBd} (hW : WF B) : -792 ≤ woM ρ B ∧ woM ρ B ≤ 792 := by
  have := woL_bound (ρ := ρ) hW 0 (bN B) (Nat.le_refl _)
  have := hW.1
  unfold woM
  omega
theorem woM_sums {ρ : sRu} {B : sBd} (hW : WF B) : woM ρ B = (sumU (qdB ρ B) (fun i => decide (bS (qdB ρ B) i = 0)) (bN (qdB ρ B)) : Int) - sumU (qdB ρ B) (fun i => decide (bS (qdB ρ B) i = 1)) (bN (qdB ρ B)) := by
  have key : ∀ n, n ≤ bN B → fb_si (woL ρ B 0) n = (sumU (qdB ρ B) (fun i => decide (bS B i = 0)) n : Int) - sumU (qdB ρ B) (fun i => decide (bS B i = 1)) n := by
    intro n
    induction n with
    | zero => intro _; rfl
    | succ n ih =>
      intro hn
      have := ih (by omega)
      have hs := (hW.2.2.1 n (by omega)).2.1
      rw [fb_si_succ, this]
      show _ = ((sumU (qdB ρ B) (fun i => decide (bS B i = 0)) n + (if decide (bS B n = 0) = true then bU (qdB ρ B) n else 0) : Nat) : Int) - ((sumU (qdB ρ B) (fun i => decide (bS B i = 1)) n + (if decide (bS B n = 1) = true then bU (qdB ρ B) n else 0) : Nat) : Int)
      unfold woL
      rcases (show bS B n = 0 ∨ bS B n = 1 by omega) with e | e <;> rw [e]
      · rw [if_pos rfl, if_pos (by decide), if_neg (by decide)]; omega
      · rw [if_neg (by decide), if_neg (by decide), if_pos (by decide)]; omega
  exact key _ (Nat.le_refl _)
theorem C_worth {h : rb_H} {o ru t : Nat} {B : sBd} {ρ : sRu} (hR : RS h o B) (hW : WF B) (hU : RuC h ru ρ) (ht : t ≤ 1) (ho : o ≠ 49) (hd : ru ≠ 49) (hdj : o + 6 ≤ ru ∨ ru + 6 ≤ o) : ∃ h', fS_worthBehindDay o ru (nI t) h = some (zI (sg t (woM ρ B)), h') ∧ Ag [ru + 2, ru + 5] h h' := by
  have h8 := hW.1
  have main : ∃ x, rb_iter rb_fuel (fun s => fS_worthBehindDay_5b o ru (nI t) s.1 s.2.1 s.2.2) ((0 : Int32), (0 : Int32), h) = some x ∧ (x.1 = zI (fb_si (woL ρ B t) (bN B)) ∧ Ag [ru + 2, ru + 5] h x.2) := by
    refine rb_runP (fun k s => s.1 = zI (fb_si (woL ρ B t) k) ∧ s.2.1 = nI k ∧ Ag [ru + 2, ru + 5] h s.2.2) _ (bN B) ⟨rfl, rfl, Ag_refl _ _⟩ (by omega) ?_ ?_
    · rintro k ⟨v, w, h1⟩ hk ⟨e1, e2, hA⟩
      dsimp only at e1 e2 hA ⊢
      subst e1
      subst e2
      have hw := hW.2.2.1 k hk
      have dis : ∀ x, x ∈ sIds o → x ∉ [ru + 2, ru + 5] := by
        intro x hx
        unfold sIds at hx
        simp only [List.mem_cons, List.not_mem_nil, or_false] at hx ⊢
        omega
      have hR1 : RS h1 o B := RS_ag hR hA ho dis
      have hU1 : RuC h1 ru ρ := RuC_ag hU hA hd (by simp only [List.mem_cons, List.not_mem_nil, or_false]; omega)
      have fin : ∀ (d : Nat) (h2 : rb_H), d = dueN ρ B k → RS h2 o B → Ag [ru + 2, ru + 5] h h2 → ∃ s', fS_worthBehindDay_48l5 o ru (nI t) (zI (fb_si (woL ρ B t) k)) (nI k) (nI d) h2 = some (Sum.inl s') ∧ s'.1 = zI (fb_si (woL ρ B t) (k + 1)) ∧ s'.2.1 = nI (k + 1) ∧ Ag [ru + 2, ru + 5] h s'.2.2 := by
        intro d h2 ed hR2 hA2
        have q := hR2.2.2.2.2 k hk
        have hdl := dueN_le ρ B k
        have two : ∀ L : Nat, L = bU (qdB ρ B) k → L ≤ 99 → ∃ s', fS_worthBehindDay_76l5 o ru (nI t) (zI (fb_si (woL ρ B t) k)) (nI k) (nI L) h2 = some (Sum.inl s') ∧ s'.1 = zI (fb_si (woL ρ B t) (k + 1)) ∧ s'.2.1 = nI (k + 1) ∧ Ag [ru + 2, ru + 5] h s'.2.2 := by
          intro L eL hL
          unfold fS_worthBehindDay_76l5 fS_worthBehindDay_98l5
          rw [if_neg (oob_n (show k < 8 by omega) (by omega)), cl_n (by omega), q.2.1]
          by_cases e : bS B k = t
          · rw [if_pos (by rw [e])]
            refine ⟨_, rfl, ?_, nI_1 _, hA2⟩
            show zI _ + nI L = _
            rw [nI_z (by omega), zI_add, fb_si_succ]
            unfold woL
            rw [if_pos e, eL]
          · rw [if_neg (fun z => e ((nI_eq (by omega) (by omega)).mp z))]
            refine ⟨_, rfl, ?_, nI_1 _, hA2⟩
            show zI _ + -(nI L) = _
            rw [nI_z (by omega), zI_neg, zI_add, fb_si_succ]
            unfold woL
            rw [if_neg e, eL]
        unfold fS_worthBehindDay_48l5
        simp only [if_neg (oob_n (show k < 8 by omega) (show k < 2 ^ 31 by omega)), cl_n (show k < 2 ^ 31 by omega), q.2.2.2]
        have ub : bU (qdB ρ B) k = if goesOutB ρ B k = true then 0 else bU B k - dueN ρ B k := rfl
        by_cases c : bU B k < d
        · rw [if_pos (nI_lt c (by omega))]
          refine two 0 ?_ (by omega)
          rw [ub, if_pos (by unfold goesOutB; rw [← ed]; exact decide_eq_true c)]
        · rw [if_neg (nI_nlt (by omega) (by omega)), nI_sub (by omega)]
          refine two _ ?_ (by omega)
          rw [ub, if_neg (by unfold goesOutB; rw [← ed, decide_eq_false c]; decide), ed]
      unfold fS_worthBehindDay_5b
      have q := hR1.2.2.2.2 k hk
      simp only [hR1.1, if_neg (nI_ge hk (show bN B < 2 ^ 31 by omega)), if_neg (oob_n (show k < 8 by omega) (show k < 2 ^ 31 by omega)), cl_n (show k < 2 ^ 31 by omega), q.2.2.1]
      by_cases h25 : bP B k = 25
      · rw [if_pos (by rw [h25]; rfl)]
        exact fin 0 h1 (by unfold dueN; rw [if_pos h25]) hR1 hA
      · have h25' : ¬ nI (bP B k) = (25 : Int32) := fun z => h25 ((nI_eq (b := 25) (by have := hw.2.2.1; omega) (by omega)).mp z)
        rw [if_neg h25', hR1.2.2.1]
        obtain ⟨h2, r1, r2⟩ := S_rentAt hR1 hW hU1 hk (show bP B k < 25 by omega) hd (bQ B)
        rw [r1]
        simp only [Option.bind_some]
        exact fin _ h2 (by unfold dueN; rw [if_neg h25]) (RS_ag hR1 r2 ho dis) (Ag_trans hA r2)
    · rintro ⟨v, w, h1⟩ ⟨e1, e2, hA⟩
      dsimp only at e1 e2 hA ⊢
      subst e2
      have hf : rb_hF h1 o 5 = nI (bN B) := (AgF hA (by unfold fid; rw [if_neg ho]; simp only [List.mem_cons, List.not_mem_nil, or_false]; omega)).trans hR.1
      unfold fS_worthBehindDay_5b
      rw [hf, if_pos (nI_le (Nat.le_refl _) (by omega))]
      exact ⟨_, rfl, e1, hA⟩
  obtain ⟨x, x1, x2, x3⟩ := main
  unfold fS_worthBehindDay fS_worthBehindDay_0
  rw [x1]
  refine ⟨x.2, ?_, x3⟩
  have e : zI (sg t (woM ρ B)) = x.1 := by rw [x2, woL_sg ht _ (fun i hi => (hW.2.2.1 i hi).2.1)]; rfl
  rw [e]
  rfl
theorem M_worth {h : rb_H} {a : Nat} {B : sBd} {ρ : sRu} (hR : RM h a B) (hW : WF B) (hU : RuM h ρ) (ha : a = 75 ∨ a = 76 ∨ a = 77) : ∃ h', fM_worthBehind a h = some (zI (woM ρ B), h') ∧ Ag (78 :: 1024 :: mR) h h' := by
  obtain ⟨h1, a1, a2, a3⟩ := M_layB (a := a) (b := 78) hR hW (by omega) (by decide) (by rfl)
  have hU1 : RuM h1 ρ := RuMn_ag hU a3 (by decide)
  obtain ⟨h2, b1, b2, -, b4⟩ := M_goQuarter a2 hW hU1 (show mA 78 by unfold mA; omega)
  have hQ := qdB_WF (ρ := ρ) hW
  have s0 := sumU_le hQ (fun i => decide (bS (qdB ρ B) i = 0)) _ (Nat.le_refl _)
  have s1 := sumU_le hQ (fun i => decide (bS (qdB ρ B) i = 1)) _ (Nat.le_refl _)
  have h8 := hQ.1
  unfold fM_worthBehind fM_worthBehind_0
  rw [a1]
  simp only [Option.bind_some, b1]
  rw [show (0 : Int32) = nI 0 from rfl, M_purses1 b2 hQ (t := 0) (by omega)]
  simp only [Option.bind_some]
  rw [show (1 : Int32) = nI 1 from rfl, M_purses1 b2 hQ (t := 1) (by omega)]
  simp only [Option.bind_some]
  refine ⟨h2, ?_, Ag_trans (AgS (by decide +kernel) a3) b4⟩
  rw [nI_z (by omega), nI_z (by omega), zI_sub, woM_sums hW]
