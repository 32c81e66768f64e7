/-! signs of lines and acts, by both -/
theorem ch_shape : ∀ i, i < 4 → fJS_charAt 101 (nI i) rp_h0 = some (nI ([97, 49, 48, 48].getD i 0)) := by decide +kernel
theorem ch_at (o : Nat) (v : Int32) (h : rb_H) : fJS_charAt o v h = fJS_charAt o v rp_h0 := rfl
theorem len_shape : fJS_length 101 = some 4 := by decide +kernel
/-- which letter of pieces a sign is; 12: none -/
def letN (c : Nat) : Nat := if c = 75 then 0 else if c = 81 then 1 else if c = 82 then 2 else if c = 66 then 3 else if c = 78 then 4 else if c = 80 then 5 else if c = 107 then 6 else if c = 113 then 7 else if c = 114 then 8 else if c = 98 then 9 else if c = 110 then 10 else if c = 112 then 11 else 12
theorem letN_le (c : Nat) : letN c ≤ 12 := by
  unfold letN
  repeat (first | omega | split)
theorem rp_ix12 : ∀ c, c < 256 → rb_iter 14 (fun s => fJL_indexOfChar_7b 202 12 (rb_i2b (nI c)) s rp_h0) (0 : Int32) = some (if letN c = 12 then .inr () else .inl (nI (letN c))) := by decide +kernel
theorem rp_ixL {c : Nat} (hc : c < 256) (h : rb_H) : fJS_indexOf1 102 (nI c) h = some (if letN c = 12 then -1 else nI (letN c)) := by
  have e : (rb_iter rb_fuel (fun s => fJL_indexOfChar_7b 202 12 (rb_i2b (nI c)) s h) (0 : Int32)) = _ := rb_iter_few 14 (by decide) (rp_ix12 c hc)
  have e1 : fJL_indexOfChar 202 (nI c) 0 12 h = some (if letN c = 12 then -1 else nI (letN c)) := by
    unfold fJL_indexOfChar fJL_indexOfChar_0
    rw [e]
    by_cases z : letN c = 12
    · rw [if_pos z, if_pos z]; rfl
    · rw [if_neg z, if_neg z]; rfl
  have e2 : fJS_length 102 = some 12 := by decide +kernel
  have e3 : fJS_isLatin1 102 = true := by decide +kernel
  unfold fJS_indexOf1 fJS_indexOf1_0 fJS_indexOf2 fJS_indexOf2_0
  rw [if_pos e3, e2]
  simp only [Option.bind_some]
  unfold fJL_indexOf fJL_indexOf_0
  have e4 : rb_max (0 : Int32) 0 = 0 := by decide +kernel
  have e5 : rb_min (12 : Int32) (Int32.ofNat (rb_slL.getD (100 + 102 - 200) 0)) = 12 := by decide +kernel
  rw [if_pos (rp_enc c hc), e4, e5, if_pos (by decide), e1]
  rfl
theorem letM : ∀ c, c < 256 → (if fM_in (nI c) 65 90 = true then fM_kindOf (nI c + 32) else fM_kindOf (nI c)) = (if letN c = 12 then -1 else nI (letN c % 6)) ∧ (letN c < 12 → fM_in (nI c) 65 90 = decide (letN c < 6)) := by decide +kernel
theorem su_97 : ∀ c, c < 256 → fB_suits (nI c) 97 = (decide (97 ≤ c) && decide (c ≤ 101)) := by decide +kernel
theorem su_49 : ∀ c, c < 256 → fB_suits (nI c) 49 = (decide (49 ≤ c) && decide (c ≤ 53)) := by decide +kernel
theorem su_48 : ∀ c, c < 256 → fB_suits (nI c) 48 = (decide (48 ≤ c) && decide (c ≤ 57)) := by decide +kernel
section
variable {X : List Nat} {h : rb_H} {p : Nat}
theorem sg_lt (hX : ∀ c, c ∈ X → c < 256) (q : Nat) : X.getD q 0 < 256 := by
  by_cases z : q < X.length
  · exact hX _ (getD_mem z)
  · rw [List.getD_eq_getElem?_getD, List.getElem?_eq_none (by omega)]
    decide
theorem sg_end {q : Nat} (hq : X.length ≤ q) : X.getD q 0 = 0 := by
  rw [List.getD_eq_getElem?_getD, List.getElem?_eq_none hq]
  rfl
theorem at_any (hT : TXc h X) (hl : X.length ≤ 80) (hc : ∀ c, c ∈ X → c < 256) {q : Nat} (hq : q < 2 ^ 31) : fT_at (nI q) h = some (nI (X.getD q 0)) := by
  by_cases z : q < X.length
  · exact rp_at hT hl hc z
  · rw [rp_at0 hT (by omega) hq, sg_end (by omega)]
    rfl
theorem squareAt_n (hT : TXc h X) (hl : X.length ≤ 80) (hc : ∀ c, c ∈ X → c < 256) (hp : p < 1000) (h1 : 97 ≤ X.getD p 0) (h2 : 49 ≤ X.getD (p + 1) 0) : fT_squareAt (nI p) h = some (nI ((X.getD p 0 - 97) + 5 * (X.getD (p + 1) 0 - 49))) := by
  unfold fT_squareAt fT_squareAt_0
  rw [nI_1, at_any hT hl hc (by omega), at_any hT hl hc (by omega)]
  simp only [Option.bind_some]
  rw [show nI (X.getD (p + 1) 0) - 49 = nI (X.getD (p + 1) 0 - 49) from nI_sub (b := 49) h2, show (5 : Int32) * nI (X.getD (p + 1) 0 - 49) = nI (5 * (X.getD (p + 1) 0 - 49)) from pk_mul 5 _, nI_add, show nI (5 * (X.getD (p + 1) 0 - 49) + X.getD p 0) - 97 = nI (5 * (X.getD (p + 1) 0 - 49) + X.getD p 0 - 97) from nI_sub (b := 97) (by omega)]
  congr 2
  omega
theorem digitAt_n (hT : TXc h X) (hl : X.length ≤ 80) (hc : ∀ c, c ∈ X → c < 256) (hp : p < 2000) (h1 : 48 ≤ X.getD p 0) : fT_digitAt (nI p) h = some (nI (X.getD p 0 - 48)) := by
  unfold fT_digitAt fT_digitAt_0
  rw [at_any hT hl hc (by omega), Option.bind_some, show nI (X.getD p 0) - 48 = nI (X.getD p 0 - 48) from nI_sub (b := 48) h1]
theorem numberAt_n (hT : TXc h X) (hl : X.length ≤ 80) (hc : ∀ c, c ∈ X → c < 256) (hp : p < 1000) (h1 : 48 ≤ X.getD p 0) (h2 : 48 ≤ X.getD (p + 1) 0) : fT_numberAt (nI p) h = some (nI (10 * (X.getD p 0 - 48) + (X.getD (p + 1) 0 - 48))) := by
  unfold fT_numberAt fT_numberAt_0
  rw [nI_1, digitAt_n hT hl hc (by omega) h1, digitAt_n (p := p + 1) hT hl hc (by omega) h2]
  simp only [Option.bind_some]
  rw [show (10 : Int32) * nI (X.getD p 0 - 48) = nI (10 * (X.getD p 0 - 48)) from pk_mul 10 _, nI_add]
end
section
variable {X : List Nat} {top p a : Nat} {h : rb_H}
/-- one sign, of some that follow each other, as the class sees it -/
def sgIn (X : List Nat) (q f m : Nat) : Prop := f ≤ X.getD q 0 ∧ X.getD q 0 < f + m
/-- a sign is read; or not, and then that is the fault -/
theorem one_or (hM : rp_M h a X top p (-1)) (hX : rp_X X top) (hp : p < top) {f m : Nat} (hf : f + m ≤ 128) (h1 : 1 ≤ m) (h0 : 1 ≤ f) : (sgIn X p f m ∧ p < min X.length top ∧ ∃ h', fM_oneOf (nI f) (nI m) h = some (nI (X.getD p 0 - f), h') ∧ rp_M h' a X top (p + 1) (-1) ∧ Ag [1011, 1012] h h') ∨ (¬ sgIn X p f m ∧ ∃ h', fM_oneOf (nI f) (nI m) h = some (0, h') ∧ rp_M h' a X top p (nI p) ∧ Ag [1011, 1012] h h') := by
  have ht := hX.2.2
  rcases rp_oneOf hM hX (by omega) hf h1 with ⟨c, c1, c2, c3, c4, c5, c6⟩ | ⟨c1, c2⟩
  · subst c3
    exact Or.inl ⟨⟨c4, c5⟩, c2, _, c6, rp_M_at hM (p + 1), Ag_sF (by decide) (Ag_refl _ _)⟩
  · refine Or.inr ⟨fun z => ?_, _, c2, rp_M_w hM (nI p), Ag_sF (by decide) (Ag_refl _ _)⟩
    unfold sgIn at z
    rcases c1 with c1 | c1 | c1
    · by_cases y : p < X.length
      · omega
      · rw [sg_end (by omega)] at z
        omega
    · omega
    · omega
theorem sgIn_lt {q f m : Nat} (h : sgIn X q f m) (hf : 1 ≤ f) : q < X.length := by
  by_cases y : q < X.length
  · exact y
  · unfold sgIn at h
    rw [sg_end (by omega)] at h
    omega
/-- a square is read -/
theorem rp_square (hM : rp_M h a X top p (-1)) (hX : rp_X X top) (hp : p + 1 < top) : (sgIn X p 97 5 ∧ sgIn X (p + 1) 49 5 ∧ p + 1 < min X.length top ∧ ∃ h', fM_squareOf h = some (nI ((X.getD p 0 - 97) + 5 * (X.getD (p + 1) 0 - 49)), h') ∧ rp_M h' a X top (p + 2) (-1) ∧ Ag [1011, 1012] h h') ∨ (∃ q, ((q = p ∧ ¬ sgIn X p 97 5) ∨ (q = p + 1 ∧ sgIn X p 97 5 ∧ ¬ sgIn X (p + 1) 49 5)) ∧ ∃ x h', fM_squareOf h = some (x, h') ∧ rp_M h' a X top q (nI q) ∧ Ag [1011, 1012] h h') := by
  have ht := hX.2.2
  unfold fM_squareOf fM_squareOf_0
  rcases one_or (f := 97) (m := 5) hM hX (by omega) (by omega) (by omega) (by omega) with ⟨a1, a2, h1, a3, a4, a5⟩ | ⟨a1, h1, a3, a4, a5⟩
  · rw [show fM_oneOf (97 : Int32) 5 h = _ from a3, Option.bind_some]
    dsimp only
    rcases one_or (f := 49) (m := 5) a4 hX hp (by omega) (by omega) (by omega) with ⟨b1, b2, h2, b3, b4, b5⟩ | ⟨b1, h2, b3, b4, b5⟩
    · rw [show fM_oneOf (49 : Int32) 5 h1 = _ from b3, Option.bind_some]
      refine Or.inl ⟨a1, b1, b2, h2, ?_, b4, Ag_trans a5 b5⟩
      dsimp only
      rw [show (5 : Int32) * nI (X.getD (p + 1) 0 - 49) = nI (5 * (X.getD (p + 1) 0 - 49)) from pk_mul 5 _, nI_add]
    · rw [show fM_oneOf (49 : Int32) 5 h1 = _ from b3, Option.bind_some]
      exact Or.inr ⟨p + 1, Or.inr ⟨rfl, a1, b1⟩, _, h2, rfl, b4, Ag_trans a5 b5⟩
  · rw [show fM_oneOf (97 : Int32) 5 h = _ from a3, Option.bind_some]
    dsimp only
    rw [rp_oneOf2 a4 (fun z => m1_nI (show p < 2 ^ 31 by omega) z.symm), Option.bind_some]
    exact Or.inr ⟨p, Or.inl ⟨rfl, a1⟩, _, h1, rfl, a4, a5⟩
end
/-! one more piece -/
def addB (B : sBd) (k s q u : Nat) : sBd := (fun i => if i = bN B then k else bK B i, fun i => if i = bN B then s else bS B i, fun i => if i = bN B then q else bP B i, fun i => if i = bN B then u else bU B i, bN B + 1, bT B, bQ B, bM B)
theorem addB_WF {B : sBd} (hW : WF B) (h8 : bN B < 8) {k s q u : Nat} (hk : k ≤ 5) (hs : s ≤ 1) (hq : q < 25) (hu : u ≤ 99) (hf : ∀ i, i < bN B → bP B i ≠ q) : WF (addB B k s q u) := by
  refine ⟨h8, hW.2.1, fun i hi => ?_, fun i j hi hj he h25 => ?_⟩
  · have hi : i < bN B + 1 := hi
    show (if i = bN B then k else bK B i) ≤ 5 ∧ (if i = bN B then s else bS B i) ≤ 1 ∧ (if i = bN B then q else bP B i) ≤ 25 ∧ (if i = bN B then u else bU B i) ≤ 99
    by_cases z : i = bN B
    · rw [if_pos z, if_pos z, if_pos z, if_pos z]
      exact ⟨hk, hs, by omega, hu⟩
    · rw [if_neg z, if_neg z, if_neg z, if_neg z]
      exact hW.2.2.1 i (by omega)
  · have hi : i < bN B + 1 := hi
    have hj : j < bN B + 1 := hj
    have he : (if i = bN B then q else bP B i) = (if j = bN B then q else bP B j) := he
    have h25 : (if i = bN B then q else bP B i) ≠ 25 := h25
    by_cases z : i = bN B <;> by_cases y : j = bN B
    · omega
    · rw [if_pos z, if_neg y] at he
      exact absurd he.symm (hf j (by omega))
    · rw [if_neg z, if_pos y] at he
      exact absurd he (hf i (by omega))
    · rw [if_neg z, if_neg y] at he
      rw [if_neg z] at h25
      exact hW.2.2.2 i j (by omega) (by omega) he h25
theorem S_add {h : rb_H} {B : sBd} (hR : RS h 106 B) (h8 : bN B < 8) (k s q u : Nat) : ∃ h', fS_add 106 (nI k) (nI s) (nI q) (nI u) h = some h' ∧ RS h' 106 (addB B k s q u) ∧ Ag (sIds 106) h h' := by
  obtain ⟨r1, r2, r3, r4, r5⟩ := hR
  unfold fS_add fS_add_0
  simp only [hF_sI, r1]
  rw [if_neg (show ¬ (8 : Int32) ≤ nI (bN B) from nI_ge (b := 8) h8 (by omega)), if_neg (oob_n h8 (by omega)), if_neg (oob_n h8 (by omega)), if_neg (oob_n h8 (by omega)), if_neg (oob_n h8 (by omega))]
  simp only [cl_n (show bN B < 2 ^ 31 by omega), nI_1]
  refine ⟨_, rfl, ⟨?_, ?_, ?_, ?_, fun i hi => ?_⟩, Ag_sF (by decide) (Ag_sI (by decide) (Ag_sI (by decide) (Ag_sI (by decide) (Ag_sI (by decide) (Ag_refl _ _)))))⟩
  · simp [hI_sI, hI_sJ, hI_sF, hI_sR, hI_cp, hJ_sI, hJ_sJ, hJ_sF, hJ_sR, hJ_cp, hF_sI, hF_sJ, hF_sF, hF_sR, hF_cp, hR_sI, hR_sJ, hR_sF, hR_sR, hR_cp]; rfl
  · simp [hI_sI, hI_sJ, hI_sF, hI_sR, hI_cp, hJ_sI, hJ_sJ, hJ_sF, hJ_sR, hJ_cp, hF_sI, hF_sJ, hF_sF, hF_sR, hF_cp, hR_sI, hR_sJ, hR_sF, hR_sR, hR_cp, r2]; rfl
  · simp [hI_sI, hI_sJ, hI_sF, hI_sR, hI_cp, hJ_sI, hJ_sJ, hJ_sF, hJ_sR, hJ_cp, hF_sI, hF_sJ, hF_sF, hF_sR, hF_cp, hR_sI, hR_sJ, hR_sF, hR_sR, hR_cp, r3]; rfl
  · simp [hI_sI, hI_sJ, hI_sF, hI_sR, hI_cp, hJ_sI, hJ_sJ, hJ_sF, hJ_sR, hJ_cp, hF_sI, hF_sJ, hF_sF, hF_sR, hF_cp, hR_sI, hR_sJ, hR_sF, hR_sR, hR_cp, r4]; rfl
  · have hi : i < bN B + 1 := hi
    show _ = nI (if i = bN B then k else bK B i) ∧ _ = nI (if i = bN B then s else bS B i) ∧ _ = nI (if i = bN B then q else bP B i) ∧ _ = nI (if i = bN B then u else bU B i)
    by_cases z : i = bN B
    · simp [hI_sI, hI_sJ, hI_sF, hI_sR, hI_cp, hJ_sI, hJ_sJ, hJ_sF, hJ_sR, hJ_cp, hF_sI, hF_sJ, hF_sF, hF_sR, hF_cp, hR_sI, hR_sJ, hR_sF, hR_sR, hR_cp, z]
    · obtain ⟨q1, q2, q3, q4⟩ := r5 i (by omega)
      have q1 : rb_hI h 107 i = nI (bK B i) := q1
      have q2 : rb_hI h 108 i = nI (bS B i) := q2
      have q3 : rb_hI h 109 i = nI (bP B i) := q3
      have q4 : rb_hI h 110 i = nI (bU B i) := q4
      simp [hI_sI, hI_sJ, hI_sF, hI_sR, hI_cp, hJ_sI, hJ_sJ, hJ_sF, hJ_sR, hJ_cp, hF_sI, hF_sJ, hF_sF, hF_sR, hF_cp, hR_sI, hR_sJ, hR_sF, hR_sR, hR_cp, z, q1, q2, q3, q4]
