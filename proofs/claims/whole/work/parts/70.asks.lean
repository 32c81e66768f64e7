/-! choices; which piece it was -/
theorem bc_0 : fJI_bitCount 0 = 0 := by
  have := bc_bits (fun _ => false) (n := 0) (by omega)
  exact this
theorem max_n {a b : Nat} (ha : a < 2 ^ 31) (hb : b < 2 ^ 31) : rb_max (nI a) (nI b) = nI (max a b) := by
  unfold rb_max
  by_cases c : a < b
  · rw [if_pos (nI_lt c hb), Nat.max_eq_right (by omega)]
  · rw [if_neg (nI_nlt (by omega) ha), Nat.max_eq_left (by omega)]
/-- squares to which one can go now, if it stands -/
def gNow (B : sBd) (p t : Nat) : Bool := decide (bP B p ≠ 25) && goB B p (bP B p) t
def chA (B : sBd) (p : Nat) : Nat := if bS B p = bT B then fb_ct (gNow B p) 25 else 0
def chM (B : sBd) (p : Nat) : Nat := if bS B p = bT B ∧ ¬ bits (gNow B p) 25 = 0 then 1 else 0
def chT (B : sBd) (p : Nat) : Nat := if bS B p = bT B then fb_ct (fun t => gNow B p t && foeB B p t) 25 else 0
section
variable {h : rb_H} {B : sBd}
theorem C_openT (hR : RS h 94 B) (hW : WF B) {k : Nat} (hk : k < bN B) (hs : bS B k = bT B) : (bP B k ≠ 25 → fS_reach 94 (nI k) h = some (bits (gNow B k) 25)) ∧ (bP B k = 25 → bits (gNow B k) 25 = 0) := by
  refine ⟨fun c => ?_, fun c => ?_⟩
  · rw [S_reach_y hR hW hk c]
    congr 1
    refine bits_congr (fun t _ => ?_)
    unfold gNow
    simp [c]
  · rw [bits_zero (by omega)]
    intro t _
    unfold gNow
    simp [c]
theorem M_takenA (hR : RM h 50 B) (hW : WF B) {p : Nat} (hp : p < bN B) (a b : Int32) (v0 : Nat) : rb_iter rb_fuel (fun s => fM_choices_79b a b s.1 (nI p) (bits (gNow B p) 25) s.2 h) (nI v0, (0 : Int32)) = some (nI (v0 + fb_ct (fun t => gNow B p t && foeB B p t) 25)) := by
  have h8 := hW.1
  refine rb_run' (fun k => (nI (v0 + fb_ct (fun t => gNow B p t && foeB B p t) k), nI k)) 25 rfl (by omega) (fun k hk => ?_) ?_
  · show fM_choices_79b a b _ (nI p) (bits (gNow B p) 25) (nI k) h = _
    have hh : fM_has (bits (gNow B p) 25) (nI k) = gNow B p k := by
      rw [has_bt _ (by omega), bits_bt _ 25 (by omega) k (by omega)]
      simp [hk]
    unfold fM_choices_79b fM_choices_115l79 fM_choices_116l79
    rw [if_neg (show ¬ (25 : Int32) ≤ nI k from nI_ge (b := 25) hk (by omega)), hh, M_on hR hW (show k < 100 by omega)]
    simp only [Option.bind_some, nI_1, i0, fb_ct_succ]
    cases hg : gNow B p k
    · rw [if_neg (by decide)]
      simp
    · rw [if_pos rfl]
      unfold gNow at hg
      rw [Bool.and_eq_true] at hg
      have tk := go_tk hW hp hk hg.2
      by_cases c : who B k < bN B
      · rw [decide_eq_true c] at tk
        have n1 : ¬ nI (who B k) = (-1 : Int32) := fun z => by
          have := nI_pos' (n := who B k) (by omega)
          rw [z] at this
          exact absurd this (by decide)
        rw [if_pos c, if_neg n1, ← tk]
        simp [nI_1, Nat.add_assoc]
      · rw [decide_eq_false c] at tk
        rw [if_neg c, if_pos rfl, ← tk]
        simp
  · rfl
end
theorem O_choices : rb_op fB_choices fM_choices := by
  refine rb_op_of (fun σ hσ => ?_)
  have hW := hσ.1
  have h8 := hW.1
  refine at_row hσ (nI (fb_sm (chA (zB σ)) (bN (zB σ)))) [(nI (fb_sm (chM (zB σ)) (bN (zB σ)))).toInt64, (nI (fb_sm (chT (zB σ)) (bN (zB σ)))).toInt64] (by simp) (fun h hI => ?_) (fun h0 h e hI => ?_)
  · have loop : rb_iter rb_fuel (fun s => fB_choices_9b s.1 s.2.1 s.2.2.1 s.2.2.2 h) ((0 : Int32), (0 : Int32), (0 : Int32), (0 : Int32)) = some (nI (fb_sm (chA (zB σ)) (bN (zB σ))), nI (fb_sm (chM (zB σ)) (bN (zB σ))), nI (fb_sm (chT (zB σ)) (bN (zB σ)))) := by
      refine rb_run' (fun k => (nI (fb_sm (chA (zB σ)) k), nI (fb_sm (chM (zB σ)) k), nI (fb_sm (chT (zB σ)) k), nI k)) (bN (zB σ)) rfl (by omega) (fun k hk => ?_) ?_
      · show fB_choices_9b _ _ _ (nI k) h = _
        have hw := hW.2.2.1 k hk
        have e1 : (1 : Int32) - nI (bT (zB σ)) = nI (1 - bT (zB σ)) := nI_sub1 hW.2.1
        have sq := S_squaresOf hI.1 hW (t := 1 - bT (zB σ)) (q := k) (by omega) (by omega)
        have fin : ∀ g : Int32, (bS (zB σ) k = bT (zB σ) → g = bits (gNow (zB σ) k) 25) → (bS (zB σ) k ≠ bT (zB σ) → g = 0) → fB_choices_46l9 (nI (fb_sm (chA (zB σ)) k)) (nI (fb_sm (chM (zB σ)) k)) (nI (fb_sm (chT (zB σ)) k)) (nI k) g h = some (.inl (nI (fb_sm (chA (zB σ)) (k + 1)), nI (fb_sm (chM (zB σ)) (k + 1)), nI (fb_sm (chT (zB σ)) (k + 1)), nI (k + 1))) := by
          intro g g1 g2
          have a1 : fJI_bitCount g = nI (chA (zB σ) k) := by
            unfold chA
            by_cases c : bS (zB σ) k = bT (zB σ)
            · rw [if_pos c, g1 c, bc_bits _ (by omega)]
            · rw [if_neg c, g2 c, bc_0]; rfl
          have a2 : (if g = 0 then (0 : Int32) else 1) = nI (chM (zB σ) k) := by
            unfold chM
            by_cases c : bS (zB σ) k = bT (zB σ)
            · rw [g1 c]
              by_cases z : bits (gNow (zB σ) k) 25 = 0
              · rw [if_pos z, if_neg (fun q => q.2 z)]; rfl
              · rw [if_neg z, if_pos ⟨c, z⟩]; rfl
            · rw [g2 c, if_pos rfl, if_neg (fun q => c q.1)]; rfl
          have a3 : fJI_bitCount (g &&& bits (occ (zB σ) fun i => decide (i ≠ k) && decide (bS (zB σ) i = 1 - bT (zB σ))) 25) = nI (chT (zB σ) k) := by
            unfold chT
            by_cases c : bS (zB σ) k = bT (zB σ)
            · rw [if_pos c, g1 c, and_bits _ _ (by omega), bc_bits _ (by omega)]
              congr 1
              refine fb_ct_cong (fun t _ => ?_)
              unfold foeB
              rw [c]
            · rw [if_neg c, g2 c]
              have : (0 : Int32) &&& bits (occ (zB σ) fun i => decide (i ≠ k) && decide (bS (zB σ) i = 1 - bT (zB σ))) 25 = 0 := Int32.zero_and
              rw [this, bc_0]; rfl
          unfold fB_choices_46l9 fB_choices_67l9
          simp only [rb_lt, a1, hI.1.2.1, e1, sq, Option.bind_some, a3, nI_add, nI_1]
          by_cases z : g = 0
          · rw [if_pos z] at a2 ⊢
            rw [a2, nI_add]
            rfl
          · rw [if_neg z] at a2 ⊢
            have e : chM (zB σ) k = 1 := (nI_eq (b := 1) (by unfold chM; split <;> omega) (by omega)).mp a2.symm
            rw [fb_sm_succ, fb_sm_succ, fb_sm_succ, e]
        unfold fB_choices_9b
        rw [hI.1.1, if_neg (nI_ge hk (by omega)), S_isOnTurn_y hI.1 hW hk]
        simp only [Option.bind_some, Bool.and_eq_true, decide_eq_true_eq]
        by_cases c : bS (zB σ) k = bT (zB σ)
        · obtain ⟨o1, o2⟩ := C_openT hI.1 hW hk c
          by_cases c2 : bP (zB σ) k = 25
          · rw [if_neg (fun z => z.1 c2)]
            exact fin 0 (fun _ => (o2 c2).symm) (fun z => absurd c z)
          · rw [if_pos ⟨c2, c⟩, o1 c2]
            exact fin _ (fun _ => rfl) (fun z => absurd c z)
        · rw [if_neg (fun z => c z.2)]
          exact fin 0 (fun z => absurd z c) (fun _ => rfl)
      · show fB_choices_9b _ _ _ (nI (bN (zB σ))) h = _
        unfold fB_choices_9b
        rw [hI.1.1, if_pos (nI_le (Nat.le_refl _) (by omega))]
    obtain ⟨h1, a1, a2, a3⟩ := C_tell1 (nI (fb_sm (chM (zB σ)) (bN (zB σ)))).toInt64 (nI (fb_sm (chT (zB σ)) (bN (zB σ)))).toInt64 h
    unfold fB_choices fB_choices_0
    rw [loop]
    simp only [Option.bind_some, a1]
    exact ⟨h1, rfl, a2, AgS (by decide +kernel) a3⟩
  · have loop : rb_iter rb_fuel (fun s => fM_choices_14b s.1 s.2.1 s.2.2.1 s.2.2.2 h) ((0 : Int32), (0 : Int32), (0 : Int32), (0 : Int32)) = some (nI (fb_sm (chA (zB σ)) (bN (zB σ))), nI (fb_sm (chM (zB σ)) (bN (zB σ))), nI (fb_sm (chT (zB σ)) (bN (zB σ)))) := by
      refine rb_run' (fun k => (nI (fb_sm (chA (zB σ)) k), nI (fb_sm (chM (zB σ)) k), nI (fb_sm (chT (zB σ)) k), nI k)) (bN (zB σ)) rfl (by omega) (fun k hk => ?_) ?_
      · show fM_choices_14b _ _ _ (nI k) h = _
        have hw := hW.2.2.1 k hk
        have hT := hW.2.1
        have es : nI (bS (zB σ) k) = nI (bT (zB σ)) ↔ bS (zB σ) k = bT (zB σ) := nI_eq (by omega) (by omega)
        have go : fM_goesOf 50 (nI k) h = some (bits (gNow (zB σ) k) 25) := M_goesOf hI.1 hW hk
        unfold fM_choices_14b fM_choices_74l14 fM_choices_124l14
        simp only [hI.1.1, if_neg (nI_ge hk (show bN (zB σ) < 2 ^ 31 by omega)), if_neg (oob_n (show k < 8 by omega) (by omega)), cl_n (show k < 2 ^ 31 by omega), (hI.1.2.2.2.2 k hk).2.1, hI.1.2.1, es, go, Option.bind_some, rb_lt, bc_bits _ (show 25 ≤ 32 by omega), M_takenA hI.1 hW hk, nI_add, nI_1]
        by_cases c : bS (zB σ) k = bT (zB σ)
        · rw [if_pos c]
          have x1 : chA (zB σ) k = fb_ct (gNow (zB σ) k) 25 := if_pos c
          have x3 : chT (zB σ) k = fb_ct (fun t => gNow (zB σ) k t && foeB (zB σ) k t) 25 := if_pos c
          rw [fb_sm_succ, fb_sm_succ, fb_sm_succ, x1, x3]
          by_cases z : bits (gNow (zB σ) k) 25 = 0
          · have x2 : chM (zB σ) k = 0 := if_neg (fun q => q.2 z)
            rw [if_pos z, x2, i0]
            rfl
          · have x2 : chM (zB σ) k = 1 := if_pos ⟨c, z⟩
            rw [if_neg z, x2]
        · rw [if_neg c]
          have x1 : chA (zB σ) k = 0 := if_neg c
          have x2 : chM (zB σ) k = 0 := if_neg (fun q => c q.1)
          have x3 : chT (zB σ) k = 0 := if_neg c
          rw [fb_sm_succ, fb_sm_succ, fb_sm_succ, x1, x2, x3]
          rfl
      · show fM_choices_14b _ _ _ (nI (bN (zB σ))) h = _
        unfold fM_choices_14b
        rw [hI.1.1, if_pos (nI_le (Nat.le_refl _) (by omega))]
    obtain ⟨h1, a1, a2, a3⟩ := M_tellA (nI (fb_sm (chM (zB σ)) (bN (zB σ)))).toInt64 h
    obtain ⟨h2, b1, b2, b3⟩ := M_tell a2 (by simp) (nI (fb_sm (chT (zB σ)) (bN (zB σ)))).toInt64
    unfold fM_choices fM_choices_0
    rw [← e, loop]
    simp only [Option.bind_some, a1, b1]
    exact ⟨h2, rfl, b2, AgS (by decide +kernel) (Ag_trans a3 b3)⟩
/-- whether it is so of a piece -/
def soB (B : sBd) (p w v : Nat) : Bool := if w = 0 then decide (bK B p = v) else if w = 1 then decide (bS B p = v) else if w = 2 then decide (10 * v ≤ bU B p) else if w = 3 then decide (dN (bP B p) = v) else decide (v ≤ fb_ct (goB B p (bP B p)) 25)
section
variable {h : rb_H} {B : sBd}
theorem C_isSo (hR : RS h 94 B) (hW : WF B) {p w v : Nat} (hp : p < bN B) (ho : bP B p ≠ 25) (hw : w ≤ 4) (hv : v ≤ 9) : fB_isSo (nI p) (nI w) (nI v) h = some (soB B p w v) := by
  have h8 := hW.1
  have k := hW.2.2.1 p hp
  have q := RS94 hR hp
  have hpl : bP B p < 25 := by omega
  unfold fB_isSo fB_isSo_0 soB
  simp only [if_neg (oob_n (show p < 8 by omega) (by omega)), cl_n (show p < 2 ^ 31 by omega), q.1, q.2.1, q.2.2.1, q.2.2.2]
  rcases (show w = 0 ∨ w = 1 ∨ w = 2 ∨ w = 3 ∨ w = 4 by omega) with rfl | rfl | rfl | rfl | rfl
  · have e : nI (bK B p) = nI v ↔ bK B p = v := nI_eq (by omega) (by omega)
    rw [if_pos (show nI 0 = (0 : Int32) by decide), if_pos (show (0 : Nat) = 0 by decide)]
    simp only [e]
    by_cases c : bK B p = v <;> simp [c]
  · have e : nI (bS B p) = nI v ↔ bS B p = v := nI_eq (by omega) (by omega)
    rw [if_neg (show ¬ nI 1 = (0 : Int32) by decide), if_pos (show nI 1 = (1 : Int32) by decide), if_neg (show ¬ (1 : Nat) = 0 by decide), if_pos (show (1 : Nat) = 1 by decide)]
    simp only [e]
    by_cases c : bS B p = v <;> simp [c]
  · have e : nI (bU B p) < (10 : Int32) * nI v ↔ bU B p < 10 * v := by
      rw [show (10 : Int32) * nI v = nI (10 * v) from pk_mul 10 v]
      exact nI_ltI (by omega) (by omega)
    rw [if_neg (show ¬ nI 2 = (0 : Int32) by decide), if_neg (show ¬ nI 2 = (1 : Int32) by decide), if_pos (show nI 2 = (2 : Int32) by decide), if_neg (show ¬ (2 : Nat) = 0 by decide), if_neg (show ¬ (2 : Nat) = 1 by decide), if_pos (show (2 : Nat) = 2 by decide)]
    simp only [e]
    by_cases c : bU B p < 10 * v
    · have : ¬ 10 * v ≤ bU B p := by omega
      simp [c, this]
    · have : 10 * v ≤ bU B p := by omega
      simp [c, this]
  · have e : nI (dN (bP B p)) = nI v ↔ dN (bP B p) = v := nI_eq (by have := (farOf_n (bP B p) hpl).2; omega) (by omega)
    rw [if_neg (show ¬ nI 3 = (0 : Int32) by decide), if_neg (show ¬ nI 3 = (1 : Int32) by decide), if_neg (show ¬ nI 3 = (2 : Int32) by decide), if_pos (show nI 3 = (3 : Int32) by decide), if_neg (show ¬ (3 : Nat) = 0 by decide), if_neg (show ¬ (3 : Nat) = 1 by decide), if_neg (show ¬ (3 : Nat) = 2 by decide), if_pos (show (3 : Nat) = 3 by decide), fromMiddle_n hpl]
    simp only [Option.bind_some, e]
    by_cases c : dN (bP B p) = v <;> simp [c]
  · have hb := fb_ct_le (goB B p (bP B p)) 25
    have e : nI (fb_ct (goB B p (bP B p)) 25) < nI v ↔ fb_ct (goB B p (bP B p)) 25 < v := nI_ltI (by omega) (by omega)
    rw [if_neg (show ¬ nI 4 = (0 : Int32) by decide), if_neg (show ¬ nI 4 = (1 : Int32) by decide), if_neg (show ¬ nI 4 = (2 : Int32) by decide), if_neg (show ¬ nI 4 = (3 : Int32) by decide), if_neg (show ¬ (4 : Nat) = 0 by decide), if_neg (show ¬ (4 : Nat) = 1 by decide), if_neg (show ¬ (4 : Nat) = 2 by decide), if_neg (show ¬ (4 : Nat) = 3 by decide), S_reach_y hR hW hp ho]
    simp only [Option.bind_some, rb_lt, bc_bits _ (show 25 ≤ 32 by omega), e]
    by_cases c : fb_ct (goB B p (bP B p)) 25 < v
    · have : ¬ v ≤ fb_ct (goB B p (bP B p)) 25 := by omega
      simp [c, this]
    · have : v ≤ fb_ct (goB B p (bP B p)) 25 := by omega
      simp [c, this]
theorem M_isSo (hR : RM h 50 B) (hW : WF B) {p w v : Nat} (hp : p < bN B) (ho : bP B p ≠ 25) (hw : w ≤ 4) (hv : v ≤ 9) : fM_isSo (nI p) (nI w) (nI v) h = some (soB B p w v) := by
  have h8 := hW.1
  have k := hW.2.2.1 p hp
  have q := hR.2.2.2.2 p hp
  have hpl : bP B p < 25 := by omega
  unfold fM_isSo fM_isSo_0 soB
  simp only [if_neg (oob_n (show p < 8 by omega) (by omega)), if_neg (oob_n (show p < 27 by omega) (by omega)), cl_n (show p < 2 ^ 31 by omega), nI8, nI16, if_neg (oob_n (show 8 + p < 27 by omega) (by omega)), if_neg (oob_n (show 16 + p < 27 by omega) (by omega)), cl_n (show 8 + p < 2 ^ 31 by omega), cl_n (show 16 + p < 2 ^ 31 by omega), q.1, q.2.1, q.2.2.1, q.2.2.2]
  rcases (show w = 0 ∨ w = 1 ∨ w = 2 ∨ w = 3 ∨ w = 4 by omega) with rfl | rfl | rfl | rfl | rfl
  · have e : nI (bK B p) = nI v ↔ bK B p = v := nI_eq (by omega) (by omega)
    rw [if_pos (show nI 0 = (0 : Int32) by decide), if_pos (show (0 : Nat) = 0 by decide)]
    simp only [e]
    by_cases c : bK B p = v <;> simp [c]
  · have e : nI (bS B p) = nI v ↔ bS B p = v := nI_eq (by omega) (by omega)
    rw [if_neg (show ¬ nI 1 = (0 : Int32) by decide), if_pos (show nI 1 = (1 : Int32) by decide), if_neg (show ¬ (1 : Nat) = 0 by decide), if_pos (show (1 : Nat) = 1 by decide)]
    simp only [e]
    by_cases c : bS B p = v <;> simp [c]
  · have e : nI (bU B p) < (10 : Int32) * nI v ↔ bU B p < 10 * v := by
      rw [show (10 : Int32) * nI v = nI (10 * v) from pk_mul 10 v]
      exact nI_ltI (by omega) (by omega)
    rw [if_neg (show ¬ nI 2 = (0 : Int32) by decide), if_neg (show ¬ nI 2 = (1 : Int32) by decide), if_pos (show nI 2 = (2 : Int32) by decide), if_neg (show ¬ (2 : Nat) = 0 by decide), if_neg (show ¬ (2 : Nat) = 1 by decide), if_pos (show (2 : Nat) = 2 by decide)]
    simp only [e]
    by_cases c : bU B p < 10 * v
    · have : ¬ 10 * v ≤ bU B p := by omega
      simp [c, this]
    · have : 10 * v ≤ bU B p := by omega
      simp [c, this]
  · have e : nI (dN (bP B p)) = nI v ↔ dN (bP B p) = v := nI_eq (by have := (farOf_n (bP B p) hpl).2; omega) (by omega)
    rw [if_neg (show ¬ nI 3 = (0 : Int32) by decide), if_neg (show ¬ nI 3 = (1 : Int32) by decide), if_neg (show ¬ nI 3 = (2 : Int32) by decide), if_pos (show nI 3 = (3 : Int32) by decide), if_neg (show ¬ (3 : Nat) = 0 by decide), if_neg (show ¬ (3 : Nat) = 1 by decide), if_neg (show ¬ (3 : Nat) = 2 by decide), if_pos (show (3 : Nat) = 3 by decide)]
    simp only [rb_lt, (farOf_n (bP B p) hpl).1, e]
    by_cases c : dN (bP B p) = v <;> simp [c]
  · have hb := fb_ct_le (goB B p (bP B p)) 25
    have e : nI (fb_ct (goB B p (bP B p)) 25) < nI v ↔ fb_ct (goB B p (bP B p)) 25 < v := nI_ltI (by omega) (by omega)
    have go : fM_goesOf 50 (nI p) h = some (bits (goB B p (bP B p)) 25) := M_goesY hR hW hp ho
    rw [if_neg (show ¬ nI 4 = (0 : Int32) by decide), if_neg (show ¬ nI 4 = (1 : Int32) by decide), if_neg (show ¬ nI 4 = (2 : Int32) by decide), if_neg (show ¬ nI 4 = (3 : Int32) by decide), if_neg (show ¬ (4 : Nat) = 0 by decide), if_neg (show ¬ (4 : Nat) = 1 by decide), if_neg (show ¬ (4 : Nat) = 2 by decide), if_neg (show ¬ (4 : Nat) = 3 by decide), go]
    simp only [Option.bind_some, rb_lt, bc_bits _ (show 25 ≤ 32 by omega), e]
    by_cases c : fb_ct (goB B p (bP B p)) 25 < v
    · have : ¬ v ≤ fb_ct (goB B p (bP B p)) 25 := by omega
      simp [c, this]
    · have : v ≤ fb_ct (goB B p (bP B p)) 25 := by omega
      simp [c, this]
/-- which pieces stand and are so -/
def whB (B : sBd) (w v p : Nat) : Bool := decide (bP B p ≠ 25) && soB B p w v
theorem C_whichAre (hR : RS h 94 B) (hW : WF B) {w v : Nat} (hw : w ≤ 4) (hv : v ≤ 9) : fB_whichAre (nI w) (nI v) h = some (bits (whB B w v) (bN B)) := by
  have h8 := hW.1
  unfold fB_whichAre fB_whichAre_0
  refine rb_runB (fun k => (bits (whB B w v) k, nI k)) (bN B) (bits (whB B w v) (bN B)) rfl (by omega) (fun k hk => ?_) ?_ rfl
  · show fB_whichAre_5b (nI w) (nI v) _ (nI k) h = _
    unfold fB_whichAre_5b fB_whichAre_47l5
    rw [hR.1, if_neg (nI_ge hk (by omega)), S_stands_y hR hW hk, bits_succ (whB B w v) k]
    simp only [Option.bind_some, decide_eq_true_eq, nI_1]
    unfold whB
    by_cases c : bP B k = 25
    · simp [c]
    · rw [if_pos c, C_isSo hR hW hk c hw hv]
      simp only [Option.bind_some]
      cases soB B k w v <;> simp [c]
  · show fB_whichAre_5b (nI w) (nI v) _ (nI (bN B)) h = _
    unfold fB_whichAre_5b
    rw [hR.1, if_pos (nI_le (Nat.le_refl _) (by omega))]
/-- whether a piece fits the first n facts -/
def ftB (B : sBd) (H : List (Nat × Nat)) (n p : Nat) : Bool := decide (bP B p ≠ 25) && (List.range n).all fun i => soB B p (H.getD i (0, 0)).1 (H.getD i (0, 0)).2
theorem ftB_s (B : sBd) (H : List (Nat × Nat)) (n p : Nat) : ftB B H (n + 1) p = (ftB B H n p && soB B p (H.getD n (0, 0)).1 (H.getD n (0, 0)).2) := by
  unfold ftB
  rw [List.range_succ, List.all_append]
  simp [Bool.and_assoc]
theorem hiV_9 (w : Nat) : hiV w ≤ 9 := by
  unfold hiV
  split
  · omega
  · split
    · omega
    · split <;> omega
end
theorem fact_ok {σ : sSt} (hσ : WS σ) {i : Nat} (hi : i < (zH σ).length) : ((zH σ).getD i (0, 0)).1 ≤ 4 ∧ ((zH σ).getD i (0, 0)).2 ≤ 9 := by
  have := hσ.2.2.2.2.2.1.2 _ (getD_mem (d := ((0 : Nat), (0 : Nat))) hi)
  exact ⟨this.1, Nat.le_trans this.2 (hiV_9 _)⟩
def fitB (σ : sSt) (p : Nat) : Bool := ftB (zB σ) (zH σ) (zH σ).length p
theorem C_fitting {h : rb_H} {σ : sSt} (hσ : WS σ) (hI : IC h σ) : fB_fitting h = some (bits (fitB σ) (bN (zB σ))) := by
  have hW := hσ.1
  have h8 := hW.1
  have hl := hσ.2.2.2.2.2.1.1
  obtain ⟨f0, f3, f⟩ := hI.2.2.2.2.2.2.1
  unfold fB_fitting fB_fitting_0
  rw [S_standingPieces hI.1 hW]
  simp only [Option.bind_some]
  refine rb_runB (fun k => (bits (ftB (zB σ) (zH σ) k) (bN (zB σ)), nI k)) (zH σ).length (bits (fitB σ) (bN (zB σ))) ?_ (by omega) (fun k hk => ?_) ?_ rfl
  · have : bits (fun i => decide (bP (zB σ) i ≠ 25)) (bN (zB σ)) = bits (ftB (zB σ) (zH σ) 0) (bN (zB σ)) := bits_congr (fun i _ => by unfold ftB; simp)
    rw [this]
    rfl
  · show fB_fitting_10b _ (nI k) h = _
    obtain ⟨k1, k2⟩ := fact_ok hσ hk
    have q1 : rb_hI h 18 k = nI ((zH σ).getD k (0, 0)).1 := (f k hk).1
    have q2 : rb_hI h 19 k = nI ((zH σ).getD k (0, 0)).2 := (f k hk).2
    unfold fB_fitting_10b
    rw [f3, if_neg (nI_ge hk (by omega)), if_neg (oob_n (show k < 12 by omega) (by omega)), if_neg (oob_n (show k < 12 by omega) (by omega)), cl_n (by omega), q1, q2, C_whichAre hI.1 hW k1 k2]
    simp only [Option.bind_some, nI_1]
    rw [and_bits _ _ (by omega)]
    congr 3
    refine bits_congr (fun i _ => ?_)
    rw [ftB_s]
    unfold whB ftB
    cases decide (bP (zB σ) i ≠ 25) <;> simp
  · show fB_fitting_10b _ (nI (zH σ).length) h = _
    unfold fB_fitting_10b
    rw [f3, if_pos (nI_le (Nat.le_refl _) (by omega))]
    rfl
theorem M_fitting {h : rb_H} {σ : sSt} (hσ : WS σ) (hI : IM h σ) : fM_fitting h = some (bits (fitB σ) (bN (zB σ))) := by
  have hW := hσ.1
  have h8 := hW.1
  have hl := hσ.2.2.2.2.2.1.1
  obtain ⟨f3, f⟩ := hI.2.2.2.2.2.2.1
  unfold fM_fitting fM_fitting_0
  refine rb_runB (fun k => (bits (fitB σ) k, nI k)) (bN (zB σ)) (bits (fitB σ) (bN (zB σ))) rfl (by omega) (fun k hk => ?_) ?_ rfl
  · show fM_fitting_4b _ (nI k) h = _
    have inner : ∀ b : Bool, b = decide (bP (zB σ) k ≠ 25) → ∃ x, rb_iter rb_fuel (fun s => fM_fitting_32b (bits (fitB σ) k) (nI k) s.1 s.2 h) (rb_b2i b, (0 : Int32)) = some x ∧ x = rb_b2i (fitB σ k) := by
      intro b hb
      refine rb_loop (fun s => ∃ n, n ≤ (zH σ).length ∧ s.1 = rb_b2i (ftB (zB σ) (zH σ) n k) ∧ s.2 = nI n) _ (fun s => 13 - s.2.toNatClampNeg) ⟨0, Nat.zero_le _, by rw [hb]; unfold ftB; simp, rfl⟩ (by dsimp only; omega) ?_
      rintro ⟨v, w⟩ ⟨n, hn, e1, e2⟩
      dsimp only at e1 e2 ⊢
      subst e1
      subst e2
      unfold fM_fitting_32b
      rw [f3]
      by_cases c : n = (zH σ).length
      · rw [if_pos (nI_le (by omega) (by omega))]
        refine Or.inr ⟨_, rfl, ?_⟩
        unfold fitB
        rw [c]
      · rw [if_neg (nI_ge (show n < (zH σ).length by omega) (by omega))]
        cases hf : ftB (zB σ) (zH σ) n k
        · rw [if_pos (by decide)]
          refine Or.inr ⟨_, rfl, ?_⟩
          have : fitB σ k = false := by
            unfold fitB ftB
            unfold ftB at hf
            rw [Bool.and_eq_false_iff] at hf ⊢
            rcases hf with hf | hf
            · exact Or.inl hf
            · refine Or.inr ?_
              rw [List.all_eq_false] at hf ⊢
              obtain ⟨x, x1, x2⟩ := hf
              exact ⟨x, List.mem_range.mpr (by have := List.mem_range.mp x1; omega), x2⟩
          rw [this]
        · have ho : bP (zB σ) k ≠ 25 := by
            unfold ftB at hf
            rw [Bool.and_eq_true] at hf
            exact of_decide_eq_true hf.1
          obtain ⟨k1, k2⟩ := fact_ok hσ (show n < (zH σ).length by omega)
          have q1 : rb_hI h 84 n = nI ((zH σ).getD n (0, 0)).1 := (f n (by omega)).1
          have q2 : rb_hI h 85 n = nI ((zH σ).getD n (0, 0)).2 := (f n (by omega)).2
          rw [if_neg (by decide), if_neg (oob_n (show n < 12 by omega) (by omega)), if_neg (oob_n (show n < 12 by omega) (by omega)), cl_n (by omega), q1, q2, M_isSo hI.1 hW hk ho k1 k2]
          refine Or.inl ⟨_, rfl, ⟨n + 1, by omega, ?_, nI_1 n⟩, ?_⟩
          · show rb_b2i _ = rb_b2i _
            rw [ftB_s, hf, Bool.true_and]
          · show 13 - (nI n + 1).toNatClampNeg < 13 - n
            rw [nI_1, cl_n (by omega)]
            omega
    have low : ∀ b : Bool, b = decide (bP (zB σ) k ≠ 25) → fM_fitting_28l4 (bits (fitB σ) k) (nI k) (rb_b2i b) h = some (.inl (bits (fitB σ) (k + 1), nI (k + 1))) := by
      intro b hb
      obtain ⟨x, x1, x2⟩ := inner b hb
      unfold fM_fitting_28l4 fM_fitting_83l4
      rw [x1, x2, bits_succ (fitB σ) k, nI_1]
      simp only [Option.bind_some]
      cases fitB σ k
      · rw [if_pos (by decide), if_neg (by decide)]
      · rw [if_neg (by decide), if_pos rfl]
    unfold fM_fitting_4b
    rw [hI.1.1, if_neg (nI_ge hk (by omega)), M_isOut hI.1 hW hk]
    simp only [Option.bind_some, decide_eq_true_eq]
    by_cases c : bP (zB σ) k = 25
    · rw [if_pos c]
      exact low false (by simp [c])
    · rw [if_neg c]
      exact low true (by simp [c])
  · show fM_fitting_4b _ (nI (bN (zB σ))) h = _
    unfold fM_fitting_4b
    rw [hI.1.1, if_pos (nI_le (Nat.le_refl _) (by omega))]
theorem O_fits : rb_op fB_fits fM_fits := by
  refine rb_op_of (fun σ hσ => ?_)
  have h8 := hσ.1.1
  refine at_row hσ (bits (fitB σ) (bN (zB σ))) [(nI (fb_ct (fitB σ) (bN (zB σ)))).toInt64] (by simp) (fun h hI => ?_) (fun h0 h e hI => ?_)
  · obtain ⟨h1, a1, a2, a3⟩ := C_tell2 (nI (fb_ct (fitB σ) (bN (zB σ)))).toInt64 h
    unfold fB_fits fB_fits_0
    rw [C_fitting hσ hI]
    simp only [Option.bind_some, rb_lt, bc_bits _ (show bN (zB σ) ≤ 32 by omega), a1]
    exact ⟨h1, rfl, a2, AgS (by decide +kernel) a3⟩
  · obtain ⟨h1, a1, a2, a3⟩ := M_tellA (nI (fb_ct (fitB σ) (bN (zB σ)))).toInt64 h
    unfold fM_fits fM_fits_0
    rw [← e, M_fitting hσ hI]
    simp only [Option.bind_some, rb_lt, bc_bits _ (show bN (zB σ) ≤ 32 by omega), a1]
    exact ⟨h1, rfl, a2, AgS (by decide +kernel) a3⟩
