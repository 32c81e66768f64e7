/-! asks -/
/-- the first of the least -/
def aO (c : Nat → Bool) (r : Nat → Nat) : Nat → Option (Nat × Nat)
  | 0 => none
  | k + 1 => match aO c r k with
    | none => if c k = true then some (r k, k) else none
    | some q => if c k = true ∧ r k < q.1 then some (r k, k) else some q
section
variable {c : Nat → Bool} {r : Nat → Nat}
theorem aO_n {k : Nat} (h : aO c r k = none) (hc : c k = true) : aO c r (k + 1) = some (r k, k) := by
  unfold aO
  rw [h]
  exact if_pos hc
theorem aO_f {k : Nat} (hc : c k = false) : aO c r (k + 1) = aO c r k := by
  show (match aO c r k with | none => if c k = true then some (r k, k) else none | some q => if c k = true ∧ r k < q.1 then some (r k, k) else some q) = aO c r k
  cases h : aO c r k with
  | none => dsimp only; rw [hc]; rfl
  | some q => dsimp only; rw [if_neg (fun z => by rw [hc] at z; exact absurd z.1 (by decide))]
theorem aO_y {k : Nat} {q : Nat × Nat} (h : aO c r k = some q) (hc : c k = true) (hl : r k < q.1) : aO c r (k + 1) = some (r k, k) := by
  show (match aO c r k with | none => if c k = true then some (r k, k) else none | some q => if c k = true ∧ r k < q.1 then some (r k, k) else some q) = _
  rw [h]
  exact if_pos ⟨hc, hl⟩
theorem aO_x {k : Nat} {q : Nat × Nat} (h : aO c r k = some q) (hl : ¬ r k < q.1) : aO c r (k + 1) = some q := by
  show (match aO c r k with | none => if c k = true then some (r k, k) else none | some q => if c k = true ∧ r k < q.1 then some (r k, k) else some q) = _
  rw [h]
  exact if_neg (fun z => hl z.2)
theorem aO_skip {a : Nat} : ∀ n, (∀ j, a ≤ j → j < a + n → c j = false) → aO c r (a + n) = aO c r a
  | 0, _ => rfl
  | n + 1, h => by
    show aO c r (a + n + 1) = _
    rw [aO_f (h (a + n) (by omega) (by omega)), aO_skip n (fun j h1 h2 => h j h1 (by omega))]
theorem aO_le {b : Nat} (hr : ∀ k, r k ≤ b) : ∀ (k : Nat) (q : Nat × Nat), aO c r k = some q → q.1 ≤ b
  | 0, _, h => by cases h
  | k + 1, q, h => by
    cases e : aO c r k with
    | none =>
      cases hc : c k
      · rw [aO_f hc, e] at h; cases h
      · rw [aO_n e hc] at h; cases h; exact hr k
    | some z =>
      by_cases hl : c k = true ∧ r k < z.1
      · rw [aO_y e hl.1 hl.2] at h; cases h; exact hr k
      · by_cases hl2 : r k < z.1
        · have hc : c k = false := by cases hc : c k <;> simp_all
          rw [aO_f hc, e] at h; cases h; exact aO_le hr k _ e
        · rw [aO_x e hl2] at h; cases h; exact aO_le hr k _ e
/-- one step of a loop that looks for it -/
theorem aO_step {b d : Nat} (hr : ∀ k, r k ≤ b) (hb : b < d) (hd : d < 2 ^ 31) {k : Nat} (hc : c k = true) (D : Int32) : (nI (r k) < chL (aO c r k) (nI d) → chL (aO c r (k + 1)) (nI d) = nI (r k) ∧ chF (aO c r (k + 1)) D = nI k) ∧ (¬ nI (r k) < chL (aO c r k) (nI d) → aO c r (k + 1) = aO c r k) := by
  have h1 := hr k
  cases e : aO c r k with
  | none =>
    rw [aO_n e hc]
    refine ⟨fun _ => ⟨rfl, rfl⟩, fun z => absurd (nI_lt (show r k < d by omega) hd) z⟩
  | some q =>
    have h2 := aO_le hr k q e
    have el : nI (r k) < nI q.1 ↔ r k < q.1 := nI_ltI (by omega) (by omega)
    refine ⟨fun z => ?_, fun z => ?_⟩
    · rw [aO_y e hc (el.mp z)]
      exact ⟨rfl, rfl⟩
    · rw [aO_x e (fun y => z (el.mpr y))]
end
def akC (k : Nat) : Bool := decide (k % 10 ≤ hiV (k / 10))
def akN (σ : sSt) (k : Nat) : Nat := fb_ct (fun p => fitB σ p && soB (zB σ) p (k / 10) (k % 10)) (bN (zB σ))
def akR (σ : sSt) (k : Nat) : Nat := max (akN σ k) (fb_ct (fitB σ) (bN (zB σ)) - akN σ k)
theorem akN_le (σ : sSt) (k : Nat) : akN σ k ≤ fb_ct (fitB σ) (bN (zB σ)) := fb_ct_sub (fun i _ h => by rw [Bool.and_eq_true] at h; exact h.1)
theorem akR_le {σ : sSt} (hσ : WS σ) (k : Nat) : akR σ k ≤ 8 := by
  have a := akN_le σ k
  have b := fb_ct_le (fitB σ) (bN (zB σ))
  have c := hσ.1.1
  unfold akR
  omega
theorem fit_stands {σ : sSt} {p : Nat} (h : fitB σ p = true) : bP (zB σ) p ≠ 25 := by
  unfold fitB ftB at h
  rw [Bool.and_eq_true] at h
  exact of_decide_eq_true h.1
theorem akR_I {σ : sSt} (hσ : WS σ) (k : Nat) : rb_max (nI (akN σ k)) (nI (fb_ct (fitB σ) (bN (zB σ))) - nI (akN σ k)) = nI (akR σ k) := by
  have a := akN_le σ k
  have b := fb_ct_le (fitB σ) (bN (zB σ))
  have c := hσ.1.1
  rw [nI_sub a, max_n (by omega) (by omega)]
  rfl
theorem C_asksIn {h : rb_H} {σ : sSt} (hσ : WS σ) (hI : IC h σ) {w : Nat} (hw : w < 5) : ∃ x, rb_iter rb_fuel (fun s => fB_asks_38b (bits (fitB σ) (bN (zB σ))) (nI (fb_ct (fitB σ) (bN (zB σ)))) s.1 s.2.1 (nI w) s.2.2 h) (chL (aO akC (akR σ) (10 * w)) 9, chF (aO akC (akR σ) (10 * w)) (-1), (0 : Int32)) = some x ∧ (x.1 = chL (aO akC (akR σ) (10 * (w + 1))) 9 ∧ x.2 = chF (aO akC (akR σ) (10 * (w + 1))) (-1)) := by
  have hW := hσ.1
  have h8 := hW.1
  obtain ⟨sv, h9⟩ := hiV_sv w hw
  refine rb_runP (fun v s => s.1 = chL (aO akC (akR σ) (10 * w + v)) 9 ∧ s.2.1 = chF (aO akC (akR σ) (10 * w + v)) (-1) ∧ s.2.2 = nI v) _ (hiV w + 1) ⟨rfl, rfl, rfl⟩ (by omega) ?_ ?_
  · rintro v ⟨y, z, u⟩ hv ⟨e1, e2, e3⟩
    dsimp only at e1 e2 e3 ⊢
    subst e3
    have hv9 : v ≤ 9 := by omega
    have d1 : (10 * w + v) / 10 = w := by omega
    have d2 : (10 * w + v) % 10 = v := by omega
    have hc : akC (10 * w + v) = true := by
      unfold akC
      rw [d1, d2]
      exact decide_eq_true (by omega)
    have hso : fJI_bitCount (bits (fitB σ) (bN (zB σ)) &&& bits (whB (zB σ) w v) (bN (zB σ))) = nI (akN σ (10 * w + v)) := by
      rw [and_bits _ _ (by omega), bc_bits _ (by omega)]
      unfold akN
      rw [d1, d2]
      congr 1
      refine fb_ct_cong (fun i _ => ?_)
      unfold whB
      cases hf : fitB σ i
      · rfl
      · rw [decide_eq_true (fit_stands hf)]
        simp
    have st := aO_step (c := akC) (r := akR σ) (akR_le hσ) (show 8 < 9 by omega) (by omega) hc (-1)
    have ek : (10 : Int32) * nI w + nI v = nI (10 * w + v) := by
      rw [show (10 : Int32) * nI w = nI (10 * w) from pk_mul 10 w, nI_add]
    unfold fB_asks_38b fB_asks_94l38
    rw [if_neg (oob_n hw (by omega)), cl_n (by omega), sv, if_neg (nI_nlt (show v ≤ hiV w by omega) (by omega)), C_whichAre hI.1 hW (by omega) hv9]
    simp only [Option.bind_some, rb_lt, hso, akR_I hσ, ek, nI_1]
    by_cases c : y ≤ nI (akR σ (10 * w + v))
    · rw [if_pos c]
      have : ¬ nI (akR σ (10 * w + v)) < chL (aO akC (akR σ) (10 * w + v)) (nI 9) := fun z => by
        have q : ¬ nI (akR σ (10 * w + v)) < y := Int32.not_lt.mpr c
        rw [e1] at q
        exact q z
      have same := st.2 this
      refine ⟨_, rfl, ?_, ?_, rfl⟩
      · show y = chL (aO akC (akR σ) (10 * w + v + 1)) 9
        rw [same]; exact e1
      · show z = chF (aO akC (akR σ) (10 * w + v + 1)) (-1)
        rw [same]; exact e2
    · rw [if_neg c]
      have : nI (akR σ (10 * w + v)) < chL (aO akC (akR σ) (10 * w + v)) (nI 9) := by
        have q : nI (akR σ (10 * w + v)) < y := Int32.not_le.mp c
        rw [e1] at q
        exact q
      obtain ⟨s1, s2⟩ := st.1 this
      exact ⟨_, rfl, s1.symm, s2.symm, rfl⟩
  · rintro ⟨y, z, u⟩ ⟨e1, e2, e3⟩
    dsimp only at e1 e2 e3 ⊢
    subst e3
    have skip : aO akC (akR σ) (10 * (w + 1)) = aO akC (akR σ) (10 * w + (hiV w + 1)) := by
      have := aO_skip (c := akC) (r := akR σ) (a := 10 * w + (hiV w + 1)) (9 - hiV w) (fun j h1 h2 => by
        unfold akC
        rw [show j / 10 = w by omega]
        exact decide_eq_false (by omega))
      rw [← this]
      congr 1
      omega
    unfold fB_asks_38b
    rw [if_neg (oob_n hw (by omega)), cl_n (by omega), sv, if_pos (nI_lt (Nat.lt_succ_self _) (by omega)), skip]
    exact ⟨_, rfl, e1, e2⟩
theorem O_asks : rb_op fB_asks fM_asks := by
  refine rb_op_of (fun σ hσ => ?_)
  have hW := hσ.1
  have h8 := hW.1
  by_cases hz : bits (fitB σ) (bN (zB σ)) = 0
  · refine at_refuse hσ (-2) (fun h hI => ?_) (fun h hI => ?_)
    · unfold fB_asks fB_asks_0
      rw [C_fitting hσ hI]
      simp only [Option.bind_some]
      rw [if_pos hz]
    · unfold fM_asks fM_asks_0
      rw [M_fitting hσ hI]
      simp only [Option.bind_some]
      rw [if_pos hz]
  · refine at_row hσ (chF (aO akC (akR σ) 50) (-1)) [(chL (aO akC (akR σ) 50) 9).toInt64] (by simp) (fun h hI => ?_) (fun h0 h e hI => ?_)
    · have loop : ∃ x, rb_iter rb_fuel (fun s => fB_asks_26b (bits (fitB σ) (bN (zB σ))) (nI (fb_ct (fitB σ) (bN (zB σ)))) s.1 s.2.1 s.2.2 h) ((9 : Int32), (-1 : Int32), (0 : Int32)) = some x ∧ (x.1 = chL (aO akC (akR σ) 50) 9 ∧ x.2 = chF (aO akC (akR σ) 50) (-1)) := by
        refine rb_runP (fun w s => s.1 = chL (aO akC (akR σ) (10 * w)) 9 ∧ s.2.1 = chF (aO akC (akR σ) (10 * w)) (-1) ∧ s.2.2 = nI w) _ 5 ⟨rfl, rfl, rfl⟩ (by omega) ?_ ?_
        · rintro w ⟨y, z, u⟩ hw ⟨e1, e2, e3⟩
          dsimp only at e1 e2 e3 ⊢
          subst e1
          subst e2
          subst e3
          obtain ⟨x, x1, x2, x3⟩ := C_asksIn hσ hI hw
          unfold fB_asks_26b
          rw [if_neg (show ¬ (5 : Int32) ≤ nI w from nI_ge (b := 5) hw (by omega)), x1]
          exact ⟨_, rfl, x2, x3, nI_1 w⟩
        · rintro ⟨y, z, u⟩ ⟨e1, e2, e3⟩
          dsimp only at e1 e2 e3 ⊢
          subst e3
          unfold fB_asks_26b
          rw [if_pos (by decide)]
          exact ⟨_, rfl, e1, e2⟩
      obtain ⟨x, x1, x2, x3⟩ := loop
      obtain ⟨h1, a1, a2, a3⟩ := C_tell2 (chL (aO akC (akR σ) 50) 9).toInt64 h
      unfold fB_asks fB_asks_0
      rw [C_fitting hσ hI]
      simp only [Option.bind_some, rb_lt, bc_bits _ (show bN (zB σ) ≤ 32 by omega), if_neg hz, x1, x2, x3, a1]
      exact ⟨h1, rfl, a2, AgS (by decide +kernel) a3⟩
    · have yes : ∀ (k : Nat) (a b d : Int32), akC k = true → rb_iter rb_fuel (fun s => fM_asks_58b (bits (fitB σ) (bN (zB σ))) a b (nI k) s.1 s.2 h) ((0 : Int32), (0 : Int32)) = some (nI (akN σ k)) ∨ 50 ≤ k := by
        intro k a b d hk
        by_cases h50 : 50 ≤ k
        · exact Or.inr h50
        · refine Or.inl ?_
          unfold akC at hk
          have hk := of_decide_eq_true hk
          have h9 := hiV_9 (k / 10)
          have e1 : nI k / 10 = nI (k / 10) := pk_div (d := 10) (by omega) (by omega) (by omega)
          have e2 : rb_rem (nI k) 10 = nI (k % 10) := pk_rem (d := 10) (by omega) (by omega) (by omega)
          refine rb_run' (fun i => (nI (fb_ct (fun p => fitB σ p && soB (zB σ) p (k / 10) (k % 10)) i), nI i)) (bN (zB σ)) rfl (by omega) (fun i hi => ?_) ?_
          · show fM_asks_58b _ a b (nI k) _ (nI i) h = _
            have hh : fM_has (bits (fitB σ) (bN (zB σ))) (nI i) = fitB σ i := by
              rw [has_bt _ (by omega), bits_bt _ _ (by omega) i (by omega)]
              simp [hi]
            unfold fM_asks_58b fM_asks_101l58 fM_asks_102l58
            rw [hI.1.1, if_neg (nI_ge hi (by omega)), hh, e1, e2]
            simp only [fb_ct_succ, nI_1]
            cases hf : fitB σ i
            · rw [if_neg (by decide), i0]
              simp
            · rw [if_pos rfl, M_isSo hI.1 hW hi (fit_stands hf) (by omega) (by omega)]
              simp only [Option.bind_some]
              cases soB (zB σ) i (k / 10) (k % 10)
              · rw [if_neg (by decide), i0]
                simp
              · rw [if_pos rfl]
                simp
          · show fM_asks_58b _ a b (nI k) _ (nI (bN (zB σ))) h = _
            unfold fM_asks_58b
            rw [hI.1.1, if_pos (nI_le (Nat.le_refl _) (by omega))]
            rfl
      have top : aO akC (akR σ) 50 ≠ none := by
        have h1 : aO akC (akR σ) 1 = some (akR σ 0, 0) := aO_n rfl (by decide)
        have keep : ∀ n, aO akC (akR σ) (1 + n) ≠ none := by
          intro n
          induction n with
          | zero => rw [h1]; simp
          | succ n ih =>
            intro z
            cases q : aO akC (akR σ) (1 + n) with
            | none => exact ih q
            | some q' =>
              by_cases hl : akR σ (1 + n) < q'.1
              · cases hc : akC (1 + n)
                · rw [show 1 + (n + 1) = 1 + n + 1 by omega, aO_f hc, q] at z; cases z
                · rw [show 1 + (n + 1) = 1 + n + 1 by omega, aO_y q hc hl] at z; cases z
              · rw [show 1 + (n + 1) = 1 + n + 1 by omega, aO_x q hl] at z; cases z
        exact keep 49
      have loop : ∃ x, rb_iter rb_fuel (fun s => fM_asks_26b (bits (fitB σ) (bN (zB σ))) s.1 s.2.1 s.2.2 h) ((-1 : Int32), (1000000 : Int32), (0 : Int32)) = some x ∧ (x.1 = chF (aO akC (akR σ) 50) (-1) ∧ x.2 = chL (aO akC (akR σ) 50) 9) := by
        refine rb_runP (fun k s => s.1 = chF (aO akC (akR σ) k) (-1) ∧ s.2.1 = chL (aO akC (akR σ) k) 1000000 ∧ s.2.2 = nI k) _ 50 ⟨rfl, rfl, rfl⟩ (by omega) ?_ ?_
        · rintro k ⟨y, z, u⟩ hk ⟨e1, e2, e3⟩
          dsimp only at e1 e2 e3 ⊢
          subst e3
          have d1 : nI k / 10 = nI (k / 10) := pk_div (d := 10) (by omega) (by omega) (by omega)
          have d2 : rb_rem (nI k) 10 = nI (k % 10) := pk_rem (d := 10) (by omega) (by omega) (by omega)
          have h9 := hiV_9 (k / 10)
          have el : nI (k % 10) ≤ nI (hiV (k / 10)) ↔ k % 10 ≤ hiV (k / 10) := nI_leI (by omega) (by omega)
          unfold fM_asks_26b fM_asks_140l26
          rw [if_neg (show ¬ (50 : Int32) ≤ nI k from nI_ge (b := 50) hk (by omega))]
          simp only [d1, d2, hiV_M _ (show k / 10 < 5 by omega), rb_lt, el, nI_1]
          by_cases c : k % 10 ≤ hiV (k / 10)
          · have hc : akC k = true := decide_eq_true c
            have st := aO_step (c := akC) (r := akR σ) (akR_le hσ) (show 8 < 1000000 by omega) (by omega) hc (-1)
            have it := (yes k y z 0 hc).resolve_right (by omega)
            rw [if_pos c, it]
            simp only [Option.bind_some, bc_bits _ (show bN (zB σ) ≤ 32 by omega), akR_I hσ]
            by_cases c2 : nI (akR σ k) < z
            · rw [if_pos c2]
              rw [e2] at c2
              obtain ⟨s1, s2⟩ := st.1 c2
              exact ⟨_, rfl, s2.symm, s1.symm, rfl⟩
            · rw [if_neg c2]
              rw [e2] at c2
              have same := st.2 c2
              exact ⟨_, rfl, by rw [same]; exact e1, by rw [same]; exact e2, rfl⟩
          · have hc : akC k = false := decide_eq_false c
            rw [if_neg c]
            exact ⟨_, rfl, by rw [aO_f hc]; exact e1, by rw [aO_f hc]; exact e2, rfl⟩
        · rintro ⟨y, z, u⟩ ⟨e1, e2, e3⟩
          dsimp only at e1 e2 e3 ⊢
          subst e3
          unfold fM_asks_26b
          rw [if_pos (by decide)]
          refine ⟨_, rfl, e1, ?_⟩
          show z = _
          rw [e2]
          cases q : aO akC (akR σ) 50 with
          | none => exact absurd q top
          | some q => rfl
      obtain ⟨x, x1, x2, x3⟩ := loop
      obtain ⟨h1, a1, a2, a3⟩ := M_tellA (chL (aO akC (akR σ) 50) 9).toInt64 h
      unfold fM_asks fM_asks_0
      rw [← e, M_fitting hσ hI]
      simp only [Option.bind_some, if_neg hz, x1, x2, x3, a1]
      exact ⟨h1, rfl, a2, AgS (by decide +kernel) a3⟩
