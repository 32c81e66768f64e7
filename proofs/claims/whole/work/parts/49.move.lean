/-! a move -/
theorem min99 {a : Nat} (h : a < 2 ^ 31) : rb_min (nI a) 99 = nI (min a 99) := by
  unfold rb_min
  by_cases q : 99 < a
  · rw [if_pos (show (99 : Int32) < nI a from nI_lt (a := 99) q h), Nat.min_eq_right (by omega)]; rfl
  · rw [if_neg (show ¬ (99 : Int32) < nI a from nI_nlt (a := 99) (b := a) (by omega) (by omega)), Nat.min_eq_left (by omega)]
theorem min99' {a : Nat} (h : a < 2 ^ 31) : rb_min 99 (nI a) = nI (min a 99) := by
  unfold rb_min
  by_cases q : a < 99
  · rw [if_pos (show nI a < (99 : Int32) from nI_lt (b := 99) q (by omega)), Nat.min_eq_left (by omega)]
  · rw [if_neg (show ¬ nI a < (99 : Int32) from nI_nlt (a := a) (b := 99) (by omega) h), Nat.min_eq_right (by omega)]; rfl
def evB (B : sBd) (p w : Nat) : sBd := (bK B, bS B, fun i => if i = w then 25 else bP B i, fun i => if i = w then 0 else if i = p then min (bU B p + bU B w) 99 else bU B i, bN B, bT B, bQ B, bM B)
def plB (B : sBd) (p s : Nat) : sBd := (bK B, bS B, fun i => if i = p then s else bP B i, bU B, bN B, bT B, bQ B, bM B)
def quB (B : sBd) (p : Nat) : sBd := (fun i => if i = p then 1 else bK B i, bS B, bP B, bU B, bN B, bT B, bQ B, bM B)
def tmB (B : sBd) : sBd := (bK B, bS B, bP B, bU B, bN B, 1 - bT B, bQ B, bM B + 1)
def mv1 (B : sBd) (p s : Nat) : sBd := if who B s < bN B then evB B p (who B s) else B
def lastRow (t : Nat) : Nat := if t = 0 then 4 else 0
def mv3 (B : sBd) (p s : Nat) : sBd := if bK B p = 5 ∧ s / 5 = lastRow (bS B p) then quB (plB (mv1 B p s) p s) p else plB (mv1 B p s) p s
/-- behind a move -/
def mvB (B : sBd) (p s : Nat) : sBd := tmB (mv3 B p s)
def mvU (B : sBd) (p s : Nat) : Nat := bU (mv1 B p s) p - bU B p
theorem mv1_N (B : sBd) (p s : Nat) : bN (mv1 B p s) = bN B := by unfold mv1; split <;> rfl
theorem mv1_S (B : sBd) (p s : Nat) : bS (mv1 B p s) = bS B := by unfold mv1; split <;> rfl
theorem mv1_K (B : sBd) (p s : Nat) : bK (mv1 B p s) = bK B := by unfold mv1; split <;> rfl
theorem mv1_T (B : sBd) (p s : Nat) : bT (mv1 B p s) = bT B := by unfold mv1; split <;> rfl
theorem mv3_N (B : sBd) (p s : Nat) : bN (mv3 B p s) = bN B := by unfold mv3; split <;> exact mv1_N B p s
theorem mv3_S (B : sBd) (p s : Nat) : bS (mv3 B p s) = bS B := by unfold mv3; split <;> exact mv1_S B p s
theorem mv3_T (B : sBd) (p s : Nat) : bT (mv3 B p s) = bT B := by unfold mv3; split <;> exact mv1_T B p s
theorem mv3_U (B : sBd) (p s : Nat) : bU (mv3 B p s) = bU (mv1 B p s) := by unfold mv3; split <;> rfl
theorem mv3_P (B : sBd) (p s i : Nat) : bP (mv3 B p s) i = if i = p then s else bP (mv1 B p s) i := by unfold mv3; split <;> rfl
theorem mvB_N (B : sBd) (p s : Nat) : bN (mvB B p s) = bN B := mv3_N B p s
theorem mvB_S (B : sBd) (p s : Nat) : bS (mvB B p s) = bS B := mv3_S B p s
theorem mvB_T (B : sBd) (p s : Nat) : bT (mvB B p s) = 1 - bT B := by show 1 - bT (mv3 B p s) = _; rw [mv3_T]
theorem who_eq {B : sBd} (hW : WF B) {i s : Nat} (hi : i < bN B) (hs : s < 25) (he : bP B i = s) : who B s = i := by
  have h1 : who B s < bN B := by
    rcases Nat.lt_or_ge (who B s) (bN B) with q | q
    · exact q
    · have e : who B s = bN B := by have := fst1_le (fun i => decide (bP B i = s)) (bN B); unfold who at q ⊢; omega
      have := fst1_none.mp e i hi
      simp [he] at this
  have h2 : bP B (who B s) = s := of_decide_eq_true (fst1_is (p := fun i => decide (bP B i = s)) h1)
  exact hW.2.2.2 _ _ h1 hi (by rw [h2, he]) (by omega)
theorem who_at {B : sBd} {s : Nat} (h : who B s < bN B) : bP B (who B s) = s := of_decide_eq_true (fst1_is (p := fun i => decide (bP B i = s)) h)
theorem who_no {B : sBd} {s : Nat} (h : ¬ who B s < bN B) {i : Nat} (hi : i < bN B) : bP B i ≠ s := by
  have e : who B s = bN B := by have := fst1_le (fun i => decide (bP B i = s)) (bN B); unfold who at h ⊢; omega
  have := fst1_none.mp e i hi
  simpa using this
theorem mv1_U {B : sBd} (hW : WF B) {p s : Nat} (hp : p < bN B) (hn : bP B p ≠ s) : bU B p ≤ bU (mv1 B p s) p ∧ bU (mv1 B p s) p ≤ 99 := by
  have hu := (hW.2.2.1 p hp).2.2.2
  unfold mv1
  by_cases h : who B s < bN B
  · rw [if_pos h]
    have : p ≠ who B s := fun z => hn (by rw [z]; exact who_at h)
    show bU B p ≤ (if p = who B s then 0 else if p = p then _ else _) ∧ (if p = who B s then 0 else if p = p then _ else _) ≤ 99
    rw [if_neg this, if_pos rfl]
    omega
  · rw [if_neg h]
    exact ⟨Nat.le_refl _, hu⟩
theorem mvB_WF {B : sBd} (hW : WF B) {p s : Nat} (hp : p < bN B) (hs : s < 25) (hn : bP B p ≠ s) : WF (mvB B p s) := by
  have hN := mvB_N B p s
  refine ⟨by rw [hN]; exact hW.1, by rw [mvB_T]; omega, fun i hi => ?_, fun i j hi hj he hx => ?_⟩
  · rw [hN] at hi
    obtain ⟨k1, k2, k3, k4⟩ := hW.2.2.1 i hi
    refine ⟨?_, ?_, ?_, ?_⟩
    · show bK (mv3 B p s) i ≤ 5
      unfold mv3
      split
      · show (if i = p then 1 else bK (mv1 B p s) i) ≤ 5
        rw [mv1_K]
        split <;> omega
      · show bK (mv1 B p s) i ≤ 5
        rw [mv1_K]; exact k1
    · rw [mvB_S]; exact k2
    · show bP (mv3 B p s) i ≤ 25
      rw [mv3_P]
      unfold mv1
      split
      · omega
      · split
        · show (if i = who B s then 25 else bP B i) ≤ 25
          split <;> omega
        · exact k3
    · show bU (mv3 B p s) i ≤ 99
      rw [mv3_U]
      by_cases e : i = p
      · rw [e]; exact (mv1_U hW hp hn).2
      · unfold mv1
        split
        · show (if i = who B s then 0 else if i = p then _ else bU B i) ≤ 99
          rw [if_neg e]
          split <;> omega
        · exact k4
  · rw [hN] at hi hj
    have hx : bP (mv3 B p s) i ≠ 25 := hx
    have he : bP (mv3 B p s) i = bP (mv3 B p s) j := he
    rw [mv3_P, mv3_P] at he
    rw [mv3_P] at hx
    have key : ∀ k, k < bN B → k ≠ p → bP (mv1 B p s) k ≠ s ∧ (bP (mv1 B p s) k ≠ 25 → bP (mv1 B p s) k = bP B k) := by
      intro k hk hkp
      unfold mv1
      by_cases h : who B s < bN B
      · rw [if_pos h]
        show (if k = who B s then 25 else bP B k) ≠ s ∧ ((if k = who B s then 25 else bP B k) ≠ 25 → (if k = who B s then 25 else bP B k) = bP B k)
        by_cases e : k = who B s
        · rw [if_pos e]
          exact ⟨by omega, fun z => absurd rfl z⟩
        · rw [if_neg e]
          exact ⟨fun z => e (who_eq hW hk hs z).symm, fun _ => rfl⟩
      · rw [if_neg h]
        exact ⟨who_no h hk, fun _ => rfl⟩
    by_cases ei : i = p
    · by_cases ej : j = p
      · omega
      · rw [if_pos ei, if_neg ej] at he
        exact absurd he.symm (key j hj ej).1
    · rw [if_neg ei] at he hx
      by_cases ej : j = p
      · rw [if_pos ej] at he
        exact absurd he (key i hi ei).1
      · rw [if_neg ej] at he
        have a := (key i hi ei).2 hx
        have b := (key j hj ej).2 (by rw [← he]; exact hx)
        exact hW.2.2.2 i j hi hj (by rw [← a, he, b]) (by rw [← a]; exact hx)
theorem div5 {s : Nat} (h : s < 25) : nI s / 5 = nI (s / 5) := pk_div (d := 5) (by omega) (by omega) (by omega)
section
variable {h : rb_H} {o a : Nat} {B : sBd}
theorem C_move97 (hR : RS h o B) (hT : bT B ≤ 1) (hN : bN B ≤ 8) {p : Nat} (hp : p < bN B) (ho : o ≠ 49) (v : Int32) : ∃ h', fS_move_97 o (nI p) v h = some (nI (bU B p) - v, h') ∧ RS h' o (tmB B) ∧ Ag [o] h h' := by
  have q := hR.2.2.2.2 p hp
  unfold fS_move_97
  rw [if_neg (oob_n (show p < 8 by omega) (by omega)), cl_n (by omega), hR.2.1, nI_sub1 hT]
  have fo : ∀ k, fid o k ∈ [o] := fun k => by unfold fid; rw [if_neg ho]; simp
  refine ⟨_, congrArg some (Prod.ext ?_ rfl), ⟨?_, ?_, ?_, ?_, fun i hi => ?_⟩, Ag_sF (fo 8) (Ag_sF (fo 6) (Ag_refl _ _))⟩
  · simp only [hI_sI, hI_sJ, hI_sF, hI_sR, hI_cp, hJ_sI, hJ_sJ, hJ_sF, hJ_sR, hJ_cp, hF_sI, hF_sJ, hF_sF, hF_sR, hF_cp, hR_sI, hR_sJ, hR_sF, hR_sR, hR_cp]
    rw [q.2.2.2]
  · simp only [hI_sI, hI_sJ, hI_sF, hI_sR, hI_cp, hJ_sI, hJ_sJ, hJ_sF, hJ_sR, hJ_cp, hF_sI, hF_sJ, hF_sF, hF_sR, hF_cp, hR_sI, hR_sJ, hR_sF, hR_sR, hR_cp]; simp; exact hR.1
  · simp only [hI_sI, hI_sJ, hI_sF, hI_sR, hI_cp, hJ_sI, hJ_sJ, hJ_sF, hJ_sR, hJ_cp, hF_sI, hF_sJ, hF_sF, hF_sR, hF_cp, hR_sI, hR_sJ, hR_sF, hR_sR, hR_cp]; simp; rfl
  · simp only [hI_sI, hI_sJ, hI_sF, hI_sR, hI_cp, hJ_sI, hJ_sJ, hJ_sF, hJ_sR, hJ_cp, hF_sI, hF_sJ, hF_sF, hF_sR, hF_cp, hR_sI, hR_sJ, hR_sF, hR_sR, hR_cp]; simp; exact hR.2.2.1
  · simp only [hI_sI, hI_sJ, hI_sF, hI_sR, hI_cp, hJ_sI, hJ_sJ, hJ_sF, hJ_sR, hJ_cp, hF_sI, hF_sJ, hF_sF, hF_sR, hF_cp, hR_sI, hR_sJ, hR_sF, hR_sR, hR_cp]; simp; rw [hR.2.2.2.1]; rfl
  · exact hR.2.2.2.2 i hi
theorem C_move70 (hR : RS h o B) (hT : bT B ≤ 1) (hN : bN B ≤ 8) (hK : ∀ i, i < bN B → bK B i ≤ 5) {p s t : Nat} (hp : p < bN B) (hs : s < 25) (ht : t < 10) (ho : o ≠ 49) (v : Int32) : ∃ h', fS_move_70 o (nI p) (nI s) v (nI t) h = some (nI (bU B p) - v, h') ∧ RS h' o (tmB (if bK B p = 5 ∧ s / 5 = t then quB B p else B)) ∧ Ag [o, o + 1] h h' := by
  have q := hR.2.2.2.2 p hp
  have hk := hK p hp
  unfold fS_move_70
  have e5 : nI (bK B p) = (5 : Int32) ↔ bK B p = 5 := nI_eq (b := 5) (by omega) (by omega)
  have et : nI (s / 5) = nI t ↔ s / 5 = t := nI_eq (by omega) (by omega)
  simp only [if_neg (oob_n (show p < 8 by omega) (by omega)), cl_n (show p < 2 ^ 31 by omega), q.1, e5, div5 hs, et]
  by_cases c : bK B p = 5 ∧ s / 5 = t
  · rw [if_pos c.1, if_pos c.2, if_pos c]
    have hR1 : RS (rb_sI h (o + 1) p 1) o (quB B p) := by
      refine ⟨hR.1, hR.2.1, hR.2.2.1, hR.2.2.2.1, fun i hi => ?_⟩
      have q := hR.2.2.2.2 i hi
      rw [hI_sI, hI_sI, hI_sI, hI_sI, if_neg (show ¬ (o + 2 = o + 1 ∧ i = p) by omega), if_neg (show ¬ (o + 3 = o + 1 ∧ i = p) by omega), if_neg (show ¬ (o + 4 = o + 1 ∧ i = p) by omega)]
      refine ⟨?_, q.2.1, q.2.2.1, q.2.2.2⟩
      show _ = nI (if i = p then 1 else bK B i)
      by_cases e : i = p
      · rw [if_pos ⟨rfl, e⟩, if_pos e]; rfl
      · rw [if_neg (fun z => e z.2), if_neg e]; exact q.1
    obtain ⟨h', m1, m2, m3⟩ := C_move97 hR1 hT hN hp ho v
    exact ⟨h', m1, m2, Ag_trans (Ag_sI (by simp) (Ag_refl _ _)) (Ag_mono (by simp) m3)⟩
  · rw [if_neg c]
    obtain ⟨h', m1, m2, m3⟩ := C_move97 hR hT hN hp ho v
    refine ⟨h', ?_, m2, Ag_mono (by simp) m3⟩
    by_cases c1 : bK B p = 5
    · rw [if_pos c1, if_neg (fun z => c ⟨c1, z⟩)]; exact m1
    · rw [if_neg c1]; exact m1
theorem C_move49 (hR : RS h o B) (hT : bT B ≤ 1) (hN : bN B ≤ 8) (hK : ∀ i, i < bN B → bK B i ≤ 5 ∧ bS B i ≤ 1) {p s : Nat} (hp : p < bN B) (hs : s < 25) (ho : o ≠ 49) (v : Int32) : ∃ h', fS_move_49 o (nI p) (nI s) v h = some (nI (bU B p) - v, h') ∧ RS h' o (tmB (if bK B p = 5 ∧ s / 5 = lastRow (bS B p) then quB (plB B p s) p else plB B p s)) ∧ Ag [o, o + 1, o + 3] h h' := by
  have hR1 : RS (rb_sI h (o + 3) p (nI s)) o (plB B p s) := by
    refine ⟨hR.1, hR.2.1, hR.2.2.1, hR.2.2.2.1, fun i hi => ?_⟩
    have q := hR.2.2.2.2 i hi
    rw [hI_sI, hI_sI, hI_sI, hI_sI, if_neg (show ¬ (o + 2 = o + 3 ∧ i = p) by omega), if_neg (show ¬ (o + 1 = o + 3 ∧ i = p) by omega), if_neg (show ¬ (o + 4 = o + 3 ∧ i = p) by omega)]
    refine ⟨q.1, q.2.1, ?_, q.2.2.2⟩
    show _ = nI (if i = p then s else bP B i)
    by_cases e : i = p
    · rw [if_pos ⟨rfl, e⟩, if_pos e]
    · rw [if_neg (fun z => e z.2), if_neg e]; exact q.2.2.1
  have q := hR1.2.2.2.2 p hp
  have hs1 := (hK p hp).2
  have A1 : Ag [o, o + 1, o + 3] h (rb_sI h (o + 3) p (nI s)) := Ag_sI (by simp) (Ag_refl _ _)
  unfold fS_move_49
  have e0 : nI (bS B p) = (0 : Int32) ↔ bS B p = 0 := nI_eq (b := 0) (by omega) (by omega)
  have q2 : rb_hI (rb_sI h (o + 3) p (nI s)) (o + 2) p = nI (bS B p) := q.2.1
  simp only [if_neg (oob_n (show p < 8 by omega) (by omega)), cl_n (show p < 2 ^ 31 by omega), q2, e0]
  unfold lastRow
  by_cases c : bS B p = 0
  · rw [if_pos c, if_pos c]
    obtain ⟨h', m1, m2, m3⟩ := C_move70 hR1 hT hN (fun i hi => (hK i hi).1) hp hs (t := 4) (by omega) ho v
    exact ⟨h', m1, m2, Ag_trans A1 (Ag_mono (by simp) m3)⟩
  · rw [if_neg c, if_neg c]
    obtain ⟨h', m1, m2, m3⟩ := C_move70 hR1 hT hN (fun i hi => (hK i hi).1) hp hs (t := 0) (by omega) ho v
    exact ⟨h', m1, m2, Ag_trans A1 (Ag_mono (by simp) m3)⟩
theorem C_move (hR : RS h o B) (hW : WF B) {p s : Nat} (hp : p < bN B) (hs : s < 25) (hn : bP B p ≠ s) (ho : o ≠ 49) : ∃ h', fS_move o (nI p) (nI s) h = some (nI (mvU B p s), h') ∧ RS h' o (mvB B p s) ∧ Ag (sIds o) h h' := by
  have h8 := hW.1
  have hT := hW.2.1
  have hK : ∀ i, i < bN B → bK B i ≤ 5 ∧ bS B i ≤ 1 := fun i hi => ⟨(hW.2.2.1 i hi).1, (hW.2.2.1 i hi).2.1⟩
  have q := hR.2.2.2.2 p hp
  have hu := mv1_U hW hp hn
  unfold fS_move fS_move_0
  simp only [if_neg (oob_n (show p < 8 by omega) (by omega)), cl_n (show p < 2 ^ 31 by omega), S_who hR hW hs, Option.bind_some, q.2.2.2]
  by_cases c : who B s < bN B
  · have hwp : p ≠ who B s := fun z => hn (by rw [z]; exact who_at c)
    have qw := hR.2.2.2.2 _ c
    have uw := (hW.2.2.1 _ c).2.2.2
    have up := (hW.2.2.1 _ hp).2.2.2
    rw [if_pos c, S_has_y hR hW c, if_pos rfl]
    simp only [if_neg (oob_n (show who B s < 8 by omega) (by omega)), cl_n (show who B s < 2 ^ 31 by omega), qw.2.2.2, nI_add, min99 (show bU B p + bU B (who B s) < 2 ^ 31 by omega)]
    unfold fS_evict fS_evict_0
    simp only [if_neg (oob_n (show who B s < 8 by omega) (by omega)), cl_n (show who B s < 2 ^ 31 by omega), Option.bind_some]
    generalize hg : rb_sI (rb_sI (rb_sI h (o + 4) p (nI (min (bU B p + bU B (who B s)) 99))) (o + 3) (who B s) 25) (o + 4) (who B s) 0 = g
    have Ag1 : Ag (sIds o) h g := by
      rw [← hg]
      exact Ag_sI (by simp [sIds]) (Ag_sI (by simp [sIds]) (Ag_sI (by simp [sIds]) (Ag_refl _ _)))
    have e1 : mv1 B p s = evB B p (who B s) := if_pos c
    have hR1 : RS g o (mv1 B p s) := by
      rw [e1, ← hg]
      refine ⟨hR.1, hR.2.1, hR.2.2.1, hR.2.2.2.1, fun i hi => ?_⟩
      have q := hR.2.2.2.2 i hi
      have n1 : ¬ o + 1 = o + 4 := by omega
      have n2 : ¬ o + 1 = o + 3 := by omega
      have n3 : ¬ o + 2 = o + 4 := by omega
      have n4 : ¬ o + 2 = o + 3 := by omega
      have n5 : ¬ o + 3 = o + 4 := by omega
      have n6 : ¬ o + 4 = o + 3 := by omega
      simp only [hI_sI, n1, n2, n3, n4, n5, n6, false_and, true_and, if_false]
      refine ⟨q.1, q.2.1, ?_, ?_⟩
      · show _ = nI (if i = who B s then 25 else bP B i)
        by_cases e : i = who B s
        · rw [if_pos e, if_pos e]; rfl
        · rw [if_neg e, if_neg e]; exact q.2.2.1
      · show _ = nI (if i = who B s then 0 else if i = p then min (bU B p + bU B (who B s)) 99 else bU B i)
        by_cases e : i = who B s
        · rw [if_pos e, if_pos e]; rfl
        · rw [if_neg e, if_neg e]
          by_cases e2 : i = p
          · rw [if_pos e2, if_pos e2]
          · rw [if_neg e2, if_neg e2]; exact q.2.2.2
    obtain ⟨h', m1, m2, m3⟩ := C_move49 hR1 (by rw [mv1_T]; exact hT) (by rw [mv1_N]; exact h8) (by rw [mv1_N, mv1_K, mv1_S]; exact hK) (p := p) (s := s) (by rw [mv1_N]; exact hp) hs ho (nI (bU B p))
    rw [mv1_K, mv1_S] at m2
    refine ⟨h', ?_, m2, Ag_trans Ag1 (Ag_mono (by simp [sIds]) m3)⟩
    rw [m1, nI_sub hu.1]
    rfl
  · have e1 : mv1 B p s = B := if_neg c
    rw [if_neg c, S_has_n hR hW (fun p hp z => by
      have := (nI_eq (a := 8) (by omega) (by omega)).mp z
      omega), if_neg (by decide)]
    obtain ⟨h', m1, m2, m3⟩ := C_move49 hR hT h8 hK hp hs ho (nI (bU B p))
    refine ⟨h', ?_, ?_, Ag_mono (by simp [sIds]) m3⟩
    · rw [m1, nI_sub (Nat.le_refl _)]
      unfold mvU
      rw [e1]
    · unfold mvB mv3
      rw [e1]
      exact m2
end
