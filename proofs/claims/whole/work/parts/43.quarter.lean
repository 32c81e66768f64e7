/-! a quarter day -/
theorem nI_sub {a b : Nat} (h : b ≤ a) : nI a - nI b = nI (a - b) := by
  have := nI_add (a - b) b
  rw [Nat.sub_add_cancel h] at this
  rw [← this, Int32.add_sub_cancel]
section
variable {S Y : Type} {f : S → Option (S ⊕ Y)}
theorem rb_runP_from (P : Nat → S → Prop) (E : Y → Prop) (n : Nat) (step : ∀ k s, k < n → P k s → ∃ s', f s = some (.inl s') ∧ P (k + 1) s') (stop : ∀ s, P n s → ∃ x, f s = some (.inr x) ∧ E x) : ∀ (d k : Nat) (s : S) (m : Nat), d + k = n → P k s → ∃ x, rb_iter (m + d + 1) f s = some x ∧ E x
  | 0, k, s, m, e, hP => by
    obtain ⟨x, h1, h2⟩ := stop s (by rw [← e, Nat.zero_add]; exact hP)
    exact ⟨x, rb_iter_inr h1, h2⟩
  | d + 1, k, s, m, e, hP => by
    obtain ⟨s', h1, h2⟩ := step k s (by omega) hP
    obtain ⟨x, h3, h4⟩ := rb_runP_from P E n step stop d (k + 1) s' m (by omega) h2
    exact ⟨x, by rw [show m + (d + 1) + 1 = (m + d + 1) + 1 from rfl, rb_iter_inl h1]; exact h3, h4⟩
/-- a loop that goes round n times, with what holds at each -/
theorem rb_runP (P : Nat → S → Prop) (E : Y → Prop) (n : Nat) {s : S} (h0 : P 0 s) (hn : n < 4294967296) (step : ∀ k s, k < n → P k s → ∃ s', f s = some (.inl s') ∧ P (k + 1) s') (stop : ∀ s, P n s → ∃ x, f s = some (.inr x) ∧ E x) : ∃ x, rb_iter rb_fuel f s = some x ∧ E x := by
  obtain ⟨x, h1, h2⟩ := rb_runP_from P E n step stop n 0 s (4294967296 - n - 1) (by omega) h0
  refine ⟨x, ?_, h2⟩
  rw [rb_fuel_eq, show (4294967296 : Nat) = 4294967296 - n - 1 + n + 1 by omega]
  exact h1
end
theorem RuC_ag {L : List Nat} {h h' : rb_H} {o : Nat} {ρ : sRu} (hU : RuC h o ρ) (hA : Ag L h h') (h0 : o ≠ 49) (hL : o ∉ L ∧ o + 1 ∉ L) : RuC h' o ρ := by
  have f : fid o 5 ∉ L := by unfold fid; rw [if_neg h0]; exact hL.1
  have e := AgF hA f
  refine ⟨fun q => e.trans (hU.1 q), fun q => ?_⟩
  obtain ⟨u1, u2⟩ := hU.2 q
  refine ⟨by rw [e]; exact u1, fun g th g1 g2 g3 => u2 g th (fun i => (g1 i).trans (AgI hA hL.2 i)) (g2.trans e) g3⟩
theorem RuM_ag {L : List Nat} {h h' : rb_H} {ρ : sRu} (hU : RuM h ρ) (hA : Ag L h h') (hL : ∀ x, x ∈ [1016, 2001, 55, 56] → x ∉ L) : RuM h' ρ := by
  have f : fid 49 16 ∉ L := hL _ (by decide)
  have e := AgF hA f
  have e2 : rb_hR h' 1 = rb_hR h 1 := AgR hA (hL 2001 (by decide))
  refine ⟨fun q => by rw [e]; exact hU.1 q, fun q => ?_⟩
  obtain ⟨u1, u2, u3, u4⟩ := hU.2 q
  have e3 : ∀ i, rb_hI h' (rb_hR h 1) i = rb_hI h (rb_hR h 1) i := fun i => AgI hA (by rcases u3 with z | z <;> rw [z] <;> exact hL _ (by decide)) i
  rw [e, e2]
  exact ⟨u1, u2, u3, fun g th g1 g2 g3 g4 g5 g6 g7 g8 => u4 g th g1 (fun i => (g2 i).trans (e3 i)) g3 g4 g5 g6 g7 g8⟩
/-- what a piece owes -/
def dueN (ρ : sRu) (B : sBd) (i : Nat) : Nat := if bP B i = 25 then 0 else rentN ρ B i (bP B i) (bQ B)
theorem dueN_le (ρ : sRu) (B : sBd) (i : Nat) : dueN ρ B i ≤ 20 := by
  unfold dueN
  split
  · omega
  · exact rentN_le _ _ _ _ _
def goesOutB (ρ : sRu) (B : sBd) (i : Nat) : Bool := decide (bU B i < dueN ρ B i)
/-- behind a quarter day -/
def qdB (ρ : sRu) (B : sBd) : sBd := (bK B, bS B, fun i => if goesOutB ρ B i = true then 25 else bP B i, fun i => if goesOutB ρ B i = true then 0 else bU B i - dueN ρ B i, bN B, bT B, bQ B + 1, bM B)
def paidN (ρ : sRu) (B : sBd) (i : Nat) : Nat := if goesOutB ρ B i = true then 0 else dueN ρ B i
theorem qdB_WF {ρ : sRu} {B : sBd} (hW : WF B) : WF (qdB ρ B) := by
  obtain ⟨h1, h2, h3, h4⟩ := hW
  refine ⟨h1, h2, fun i hi => ?_, fun i j hi hj he hn => ?_⟩
  · obtain ⟨a, b, c, d⟩ := h3 i hi
    refine ⟨a, b, ?_, ?_⟩
    · show (if goesOutB ρ B i = true then 25 else bP B i) ≤ 25
      split <;> omega
    · show (if goesOutB ρ B i = true then 0 else bU B i - dueN ρ B i) ≤ 99
      split <;> omega
  · have e : ∀ k, bP (qdB ρ B) k = if goesOutB ρ B k = true then 25 else bP B k := fun _ => rfl
    rw [e] at hn
    rw [e, e] at he
    by_cases g1 : goesOutB ρ B i = true
    · rw [if_pos g1] at hn; exact absurd rfl hn
    · rw [if_neg g1] at he hn
      by_cases g2 : goesOutB ρ B j = true
      · rw [if_pos g2] at he; exact absurd he hn
      · rw [if_neg g2] at he
        exact h4 i j hi hj he hn
section
variable {h : rb_H} {o a ru : Nat} {B : sBd} {ρ : sRu}
theorem S_dues (hR : RS h o B) (hW : WF B) (hU : RuC h ru ρ) (ho : o ≠ 49) (hd : ru ≠ 49) (hdj : o + 6 ≤ ru ∨ ru + 6 ≤ o) : ∃ x, rb_iter rb_fuel (fun s => fS_quarterDay_2b o ru s.1 s.2) ((0 : Int32), h) = some x ∧ (Ag [ru + 2, ru + 5, o + 5] h x ∧ ∀ i, i < bN B → rb_hI x (o + 5) i = nI (dueN ρ B i)) := by
  have h8 := hW.1
  refine rb_runP (fun k s => s.1 = nI k ∧ Ag [ru + 2, ru + 5, o + 5] h s.2 ∧ ∀ i, i < k → rb_hI s.2 (o + 5) i = nI (dueN ρ B i)) _ (bN B) ⟨rfl, Ag_refl _ _, fun i hi => absurd hi (Nat.not_lt_zero _)⟩ (by omega) ?_ ?_
  · rintro k ⟨v, h1⟩ hk ⟨e, hA, hI⟩
    dsimp only at e hA hI ⊢
    subst e
    have hR1 : RS h1 o B := RS_ag hR hA ho (by intro x hx; unfold sIds at hx; simp only [List.mem_cons, List.not_mem_nil, or_false] at hx ⊢; omega)
    have hU1 : RuC h1 ru ρ := RuC_ag hU hA hd (by simp only [List.mem_cons, List.not_mem_nil, or_false]; omega)
    have hw := hW.2.2.1 k hk
    unfold fS_quarterDay_2b fS_quarterDay_46l2
    have e25 : nI (bP B k) = (25 : Int32) ↔ bP B k = 25 := nI_eq (a := bP B k) (b := 25) (by omega) (by omega)
    simp only [hR1.1, hR1.2.2.1, if_neg (nI_ge hk (show bN B < 2 ^ 31 by omega)), if_neg (oob_n (show k < 8 by omega) (by omega)), cl_n (show k < 2 ^ 31 by omega), (hR1.2.2.2.2 k hk).2.2.1, e25, nI_1]
    by_cases q : bP B k = 25
    · rw [if_pos q]
      refine ⟨_, rfl, rfl, Ag_sI (by simp) hA, fun i hi => ?_⟩
      rw [hI_sI]
      by_cases ei : i = k
      · subst ei
        rw [if_pos ⟨rfl, rfl⟩]
        unfold dueN
        rw [if_pos q]; rfl
      · rw [if_neg (fun z => ei z.2)]
        exact hI i (by omega)
    · rw [if_neg q]
      obtain ⟨h2, r1, r2⟩ := S_rentAt hR1 hW hU1 hk (show bP B k < 25 by omega) hd (bQ B)
      rw [r1]
      refine ⟨_, rfl, rfl, Ag_sI (by simp) (Ag_trans hA (Ag_mono (by simp) r2)), fun i hi => ?_⟩
      rw [hI_sI]
      by_cases ei : i = k
      · subst ei
        rw [if_pos ⟨rfl, rfl⟩]
        unfold dueN
        rw [if_neg q]
      · rw [if_neg (fun z => ei z.2), AgI r2 (by simp only [List.mem_cons, List.not_mem_nil, or_false]; omega)]
        exact hI i (by omega)
  · rintro ⟨v, h1⟩ ⟨e, hA, hI⟩
    dsimp only at e hA hI ⊢
    subst e
    have hR1 : RS h1 o B := RS_ag hR hA ho (by intro x hx; unfold sIds at hx; simp only [List.mem_cons, List.not_mem_nil, or_false] at hx ⊢; omega)
    unfold fS_quarterDay_2b
    rw [hR1.1, if_pos (nI_le (Nat.le_refl _) (by omega))]
    exact ⟨_, rfl, hA, hI⟩
theorem S_quarterDay (hR : RS h o B) (hW : WF B) (hU : RuC h ru ρ) (ho : o ≠ 49) (hd : ru ≠ 49) (hdj : o + 6 ≤ ru ∨ ru + 6 ≤ o) : ∃ h', fS_quarterDay o ru h = some (nI (fb_sm (paidN ρ B) (bN B)), h') ∧ RS h' o (qdB ρ B) ∧ Ag [ru + 2, ru + 5, o, o + 3, o + 4, o + 5] h h' := by
  have h8 := hW.1
  unfold fS_quarterDay fS_quarterDay_0
  obtain ⟨h1, d1, d2, d3⟩ := S_dues hR hW hU ho hd hdj
  rw [d1]
  simp only [Option.bind_some]
  have hR1 : RS h1 o B := RS_ag hR d2 ho (by intro x hx; unfold sIds at hx; simp only [List.mem_cons, List.not_mem_nil, or_false] at hx ⊢; omega)
  have main : ∃ x, rb_iter rb_fuel (fun s => fS_quarterDay_57b o s.1 s.2.1 s.2.2) ((0 : Int32), (0 : Int32), h1) = some x ∧ (x.1 = nI (fb_sm (paidN ρ B) (bN B)) ∧ Ag [o + 3, o + 4] h1 x.2 ∧ ∀ i, i < bN B → rb_hI x.2 (o + 3) i = nI (bP (qdB ρ B) i) ∧ rb_hI x.2 (o + 4) i = nI (bU (qdB ρ B) i)) := by
    refine rb_runP (fun k s => s.1 = nI (fb_sm (paidN ρ B) k) ∧ s.2.1 = nI k ∧ Ag [o + 3, o + 4] h1 s.2.2 ∧ ∀ i, i < bN B → rb_hI s.2.2 (o + 3) i = nI (if i < k then bP (qdB ρ B) i else bP B i) ∧ rb_hI s.2.2 (o + 4) i = nI (if i < k then bU (qdB ρ B) i else bU B i)) _ (bN B) ⟨rfl, rfl, Ag_refl _ _, fun i hi => ?_⟩ (by omega) ?_ ?_
    · rw [if_neg (Nat.not_lt_zero _), if_neg (Nat.not_lt_zero _)]
      exact ⟨(hR1.2.2.2.2 i hi).2.2.1, (hR1.2.2.2.2 i hi).2.2.2⟩
    · rintro k ⟨v, w, h2⟩ hk ⟨e1, e2, hA, hI⟩
      dsimp only at e1 e2 hA hI ⊢
      subst e1
      subst e2
      have hw := hW.2.2.1 k hk
      have hf : rb_hF h2 o 5 = nI (bN B) := (AgF hA (by unfold fid; rw [if_neg ho]; simp)).trans hR1.1
      have hdu : rb_hI h2 (o + 5) k = nI (dueN ρ B k) := (AgI hA (by simp) k).trans (d3 k hk)
      have hu := (hI k hk).2
      rw [if_neg (Nat.lt_irrefl k)] at hu
      have hdl := dueN_le ρ B k
      have elt : nI (bU B k) < nI (dueN ρ B k) ↔ bU B k < dueN ρ B k := nI_ltI (by omega) (by omega)
      unfold fS_quarterDay_57b fS_evict fS_evict_0 fS_quarterDay_112l57
      simp only [hf, if_neg (nI_ge hk (show bN B < 2 ^ 31 by omega)), if_neg (oob_n (show k < 8 by omega) (by omega)), cl_n (show k < 2 ^ 31 by omega), hu, hdu, elt, nI_1, Option.bind_some]
      by_cases q : bU B k < dueN ρ B k
      · have g : goesOutB ρ B k = true := decide_eq_true q
        rw [if_pos q]
        refine ⟨_, rfl, ?_, rfl, Ag_sI (by simp) (Ag_sI (by simp) hA), fun i hi => ?_⟩
        · show nI (fb_sm (paidN ρ B) k) = nI (fb_sm (paidN ρ B) k + paidN ρ B k)
          unfold paidN
          rw [if_pos g, Nat.add_zero]
        · have n1 : ¬ o + 3 = o + 4 := by omega
          have n2 : ¬ o + 4 = o + 3 := by omega
          simp only [hI_sI, n1, n2, false_and, if_false, true_and]
          by_cases ei : i = k
          · subst ei
            simp only [if_true, if_pos (Nat.lt_succ_self i)]
            refine ⟨?_, ?_⟩
            · show (25 : Int32) = nI (if goesOutB ρ B i = true then 25 else bP B i)
              rw [if_pos g]; rfl
            · show (0 : Int32) = nI (if goesOutB ρ B i = true then 0 else bU B i - dueN ρ B i)
              rw [if_pos g]; rfl
          · have : i < k + 1 ↔ i < k := by omega
            simp only [if_neg ei, this]
            exact hI i hi
      · have g : ¬ goesOutB ρ B k = true := by unfold goesOutB; simp; omega
        rw [if_neg q]
        have hsub : nI (bU B k) - nI (dueN ρ B k) = nI (bU B k - dueN ρ B k) := nI_sub (by omega)
        have n2 : ¬ o + 5 = o + 4 := by omega
        have hdu2 : ∀ x, rb_hI (rb_sI h2 (o + 4) k x) (o + 5) k = nI (dueN ρ B k) := fun x => by rw [hI_sI, if_neg (fun z => n2 z.1)]; exact hdu
        simp only [hsub, hdu2]
        refine ⟨_, rfl, ?_, rfl, Ag_sI (by simp) hA, fun i hi => ?_⟩
        · show nI (fb_sm (paidN ρ B) k) + nI (dueN ρ B k) = nI (fb_sm (paidN ρ B) k + paidN ρ B k)
          unfold paidN
          rw [if_neg g, nI_add]
        · have n1 : ¬ o + 3 = o + 4 := by omega
          simp only [hI_sI, n1, false_and, if_false, true_and]
          by_cases ei : i = k
          · subst ei
            simp only [if_true, if_pos (Nat.lt_succ_self i)]
            refine ⟨?_, ?_⟩
            · rw [(hI i hi).1, if_neg (Nat.lt_irrefl i)]
              show _ = nI (if goesOutB ρ B i = true then 25 else bP B i)
              rw [if_neg g]
            · show _ = nI (if goesOutB ρ B i = true then 0 else bU B i - dueN ρ B i)
              rw [if_neg g]
          · have : i < k + 1 ↔ i < k := by omega
            simp only [if_neg ei, this]
            exact hI i hi
    · rintro ⟨v, w, h2⟩ ⟨e1, e2, hA, hI⟩
      dsimp only at e1 e2 hA hI ⊢
      subst e1
      subst e2
      have hf : rb_hF h2 o 5 = nI (bN B) := (AgF hA (by unfold fid; rw [if_neg ho]; simp)).trans hR1.1
      unfold fS_quarterDay_57b
      rw [hf, if_pos (nI_le (Nat.le_refl _) (by omega))]
      refine ⟨_, rfl, rfl, hA, fun i hi => ?_⟩
      have := hI i hi
      rw [if_pos hi, if_pos hi] at this
      exact this
  obtain ⟨x, m1, m2, m3, m4⟩ := main
  rw [m1]
  simp only [Option.bind_some, m2]
  have fo' : ∀ k, fid o k ∉ [o + 3, o + 4] := fun k => by unfold fid; rw [if_neg ho]; simp
  refine ⟨_, rfl, ⟨?_, ?_, ?_, ?_, fun i hi => ?_⟩, ?_⟩
  · simp only [hI_sI, hI_sJ, hI_sF, hI_sR, hI_cp, hJ_sI, hJ_sJ, hJ_sF, hJ_sR, hJ_cp, hF_sI, hF_sJ, hF_sF, hF_sR, hF_cp, hR_sI, hR_sJ, hR_sF, hR_sR, hR_cp]
    rw [if_neg (by decide), AgF m3 (fo' 5)]
    exact hR1.1
  · simp only [hI_sI, hI_sJ, hI_sF, hI_sR, hI_cp, hJ_sI, hJ_sJ, hJ_sF, hJ_sR, hJ_cp, hF_sI, hF_sJ, hF_sF, hF_sR, hF_cp, hR_sI, hR_sJ, hR_sF, hR_sR, hR_cp]
    rw [if_neg (by decide), AgF m3 (fo' 6)]
    exact hR1.2.1
  · simp only [hI_sI, hI_sJ, hI_sF, hI_sR, hI_cp, hJ_sI, hJ_sJ, hJ_sF, hJ_sR, hJ_cp, hF_sI, hF_sJ, hF_sF, hF_sR, hF_cp, hR_sI, hR_sJ, hR_sF, hR_sR, hR_cp]
    rw [if_pos ⟨trivial, trivial⟩, AgF m3 (fo' 7), hR1.2.2.1]
    rfl
  · simp only [hI_sI, hI_sJ, hI_sF, hI_sR, hI_cp, hJ_sI, hJ_sJ, hJ_sF, hJ_sR, hJ_cp, hF_sI, hF_sJ, hF_sF, hF_sR, hF_cp, hR_sI, hR_sJ, hR_sF, hR_sR, hR_cp]
    rw [if_neg (by decide), AgF m3 (fo' 8)]
    exact hR1.2.2.2.1
  · simp only [hI_sI, hI_sJ, hI_sF, hI_sR, hI_cp, hJ_sI, hJ_sJ, hJ_sF, hJ_sR, hJ_cp, hF_sI, hF_sJ, hF_sF, hF_sR, hF_cp, hR_sI, hR_sJ, hR_sF, hR_sR, hR_cp]
    have q := hR1.2.2.2.2 i hi
    exact ⟨(AgI m3 (by simp) i).trans q.1, (AgI m3 (by simp) i).trans q.2.1, (m4 i hi).1, (m4 i hi).2⟩
  · refine Ag_sF (by unfold fid; rw [if_neg ho]; simp) (Ag_trans (Ag_mono ?_ d2) (Ag_mono ?_ m3))
    · intro y hy
      simp only [List.mem_cons, List.not_mem_nil, or_false] at hy ⊢
      omega
    · intro y hy
      simp only [List.mem_cons, List.not_mem_nil, or_false] at hy ⊢
      omega
end
