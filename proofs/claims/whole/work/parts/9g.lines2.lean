/-! a line, by both -/
section
variable {X : List Nat} {B B0 : sBd} {n p : Nat}
/-- the board so far, over the board that is -/
def onB (B0 B : sBd) (n : Nat) : Prop := bN B = bN B0 + n ∧ (∀ i, i < bN B0 → bK B i = bK B0 i ∧ bS B i = bS B0 i ∧ bP B i = bP B0 i ∧ bU B i = bU B0 i) ∧ bT B = bT B0 ∧ bQ B = bQ B0 ∧ bM B = bM B0
theorem onB_add (h : onB B0 B n) (k s q u : Nat) : onB B0 (addB B k s q u) (n + 1) := by
  obtain ⟨h1, h2, h3⟩ := h
  refine ⟨?_, fun i hi => ?_, h3⟩
  · show bN B + 1 = _
    omega
  · have hi2 : i ≠ bN B := by omega
    show (if i = bN B then k else bK B i) = _ ∧ (if i = bN B then s else bS B i) = _ ∧ (if i = bN B then q else bP B i) = _ ∧ (if i = bN B then u else bU B i) = _
    rw [if_neg hi2, if_neg hi2, if_neg hi2, if_neg hi2]
    exact h2 i hi
theorem toldN_ag {h h' : rb_H} {L : List Nat} {N : Nat} (ht : toldN h N n B) (hA : Ag L h h') (hL : 54 ∉ L) : toldN h' N n B := fun k hk => by
  obtain ⟨q1, q2, q3, q4⟩ := ht k hk
  exact ⟨(AgI hA hL _).trans q1, (AgI hA hL _).trans q2, (AgI hA hL _).trans q3, (AgI hA hL _).trans q4⟩
theorem toldN_add {h h' : rb_H} {N : Nat} (ht : toldN h N n B) (hN : bN B = N + n) (k s q u : Nat) (hlo : ∀ j, j < 4 * n → rb_hI h' 54 j = rb_hI h 54 j) (e0 : rb_hI h' 54 (4 * n) = nI k) (e1 : rb_hI h' 54 (4 * n + 1) = nI s) (e2 : rb_hI h' 54 (4 * n + 2) = nI q) (e3 : rb_hI h' 54 (4 * n + 3) = nI u) : toldN h' N (n + 1) (addB B k s q u) := by
  intro i hi
  show _ = nI (if N + i = bN B then k else bK B (N + i)) ∧ _ = nI (if N + i = bN B then s else bS B (N + i)) ∧ _ = nI (if N + i = bN B then q else bP B (N + i)) ∧ _ = nI (if N + i = bN B then u else bU B (N + i))
  by_cases z : i = n
  · subst z
    rw [if_pos hN.symm, if_pos hN.symm, if_pos hN.symm, if_pos hN.symm]
    exact ⟨e0, e1, e2, e3⟩
  · have z2 : N + i ≠ bN B := by omega
    rw [if_neg z2, if_neg z2, if_neg z2, if_neg z2, hlo _ (by omega), hlo _ (by omega), hlo _ (by omega), hlo _ (by omega)]
    exact ht i (by omega)
/-- free on the whole is free on the board and among those told -/
theorem free_split (ho : onB B0 B n) {s : Nat} : freeB B s ↔ freeB B0 s ∧ ∀ k, k < n → bP B (bN B0 + k) ≠ s := by
  unfold freeB
  constructor
  · intro h
    exact ⟨fun i hi => by rw [← (ho.2.1 i hi).2.2.1]; exact h i (by have := ho.1; omega), fun k hk => h _ (by have := ho.1; omega)⟩
  · rintro ⟨h1, h2⟩ i hi
    by_cases z : i < bN B0
    · rw [(ho.2.1 i z).2.2.1]
      exact h1 i z
    · have := h2 (i - bN B0) (by have := ho.1; omega)
      rw [show bN B0 + (i - bN B0) = i by omega] at this
      exact this
theorem pc_line (hX : rp_X X 47) (hW : WF B) (hW0 : WF B0) (ho : onB B0 B n) (h8 : bN B < 8) (hp : p = 6 * n) : (∃ q, q ≤ 47 ∧ (∀ h, TXc h X → RS h 106 B → fB_lineFault (nI p) h = some (nI q)) ∧ ∀ h, rp_M h 52 X 47 p (-1) → RM h 50 B0 → toldN h (bN B0) n B → ∃ h' p', fM_readPiece (nI n) h = some h' ∧ rp_M h' 52 X 47 p' (nI q) ∧ Ag [54, 1011, 1012] h h') ∨
    ∃ k s q u, k ≤ 5 ∧ s ≤ 1 ∧ q < 25 ∧ u ≤ 99 ∧ p + 5 ≤ min X.length 47 ∧ freeB B q ∧ (∀ h, TXc h X → RS h 106 B → fB_lineFault (nI p) h = some (-1)) ∧ (∀ h, TXc h X → fT_at (nI p) h = some (nI (X.getD p 0)) ∧ fJS_indexOf1 102 (nI (X.getD p 0)) h = some (nI (6 * s + k)) ∧ fT_squareAt (nI (p + 1)) h = some (nI q) ∧ fT_numberAt (nI (p + 3)) h = some (nI u)) ∧ ∀ h, rp_M h 52 X 47 p (-1) → RM h 50 B0 → toldN h (bN B0) n B → ∃ h', fM_readPiece (nI n) h = some h' ∧ rp_M h' 52 X 47 (p + 5) (-1) ∧ toldN h' (bN B0) (n + 1) (addB B k s q u) ∧ Ag [54, 1011, 1012] h h' := by
  have hn : n ≤ 7 := by have := ho.1; omega
  have hp42 : p ≤ 42 := by omega
  have hP : ∀ k, k < n → bP B (bN B0 + k) ≤ 25 := fun k hk => (hW.2.2.1 _ (by have := ho.1; omega)).2.2.1
  have c0 := sg_lt hX.2.1 p
  obtain ⟨lm1, lm2⟩ := letM _ c0
  have ll := letN_le (X.getD p 0)
  -- the model's first sign
  have here0 : ∀ h, rp_M h 52 X 47 p (-1) → ∃ x, fM_here h = some x ∧ (x = nI (X.getD p 0) ∨ (x = -1 ∧ X.getD p 0 = 0)) := fun h hM => by
    refine ⟨_, rp_here hM hX (by omega), ?_⟩
    by_cases z : p < min X.length 47
    · rw [hereN_y z]; exact Or.inl rfl
    · rw [hereN_n z]; exact Or.inr ⟨rfl, sg_end (by omega)⟩
  by_cases hl : letN (X.getD p 0) = 12
  · refine Or.inl ⟨p, by omega, fun h hT hR => lf_none hT hX hR h8 hp42 hl, fun h hM hR0 ht => ?_⟩
    obtain ⟨x, x1, x2⟩ := here0 h hM
    refine ⟨_, p, ?_, rp_M_w hM (nI p), Ag_sF (by decide) (Ag_refl _ _)⟩
    have kn : (if fM_in x 65 90 = true then fM_kindOf (x + 32) else fM_kindOf x) = -1 := by
      rcases x2 with rfl | ⟨rfl, -⟩
      · rw [lm1, if_pos hl]
      · decide +kernel
    unfold fM_readPiece fM_readPiece_0
    rw [x1, Option.bind_some]
    simp only [rb_lt]
    have e : ∀ y : Int32, y = -1 → fM_readPiece_30 (nI n) x y h = some (rb_sF h 49 12 (nI p)) := fun y hy => by
      unfold fM_readPiece_30
      rw [if_pos hy]
      simp only [rb_lt]
      rw [rp_fault hM]
    by_cases z : fM_in x 65 90 = true
    · rw [if_pos z] at kn ⊢
      exact e _ kn
    · rw [if_neg z] at kn ⊢
      exact e _ kn
  · have cl := fun h hT hR => C_line (h := h) (B := B) hT hX hR hW h8 hp42 hl
    have pl : p < X.length := by
      by_cases z : p < X.length
      · exact z
      · rw [sg_end (by omega)] at hl
        exact absurd (by decide) hl
    have hh : hereN X 47 p = nI (X.getD p 0) := hereN_y (by omega)
    -- the model behind the letter
    have head : ∀ h, rp_M h 52 X 47 p (-1) → ∃ g, fM_readPiece (nI n) h = (fM_squareOf g).bind (fun u11 => if fM_fine u11.2 = true then (fM_on 50 u11.1 u11.2).bind fun u15 => if u15 = -1 then fM_readPiece_129 (nI n) (nI (p + 1)) u11.1 0 u11.2 else fM_readPiece_129 (nI n) (nI (p + 1)) u11.1 1 u11.2 else some u11.2) ∧ rp_M g 52 X 47 (p + 1) (-1) ∧ Ag [54, 1011, 1012] h g ∧ (∀ j, j < 4 * n → rb_hI g 54 j = rb_hI h 54 j) ∧ rb_hI g 54 (4 * n) = nI (letN (X.getD p 0) % 6) ∧ rb_hI g 54 (4 * n + 1) = nI (letN (X.getD p 0) / 6) := fun h hM => by
      have M1 := rp_M_at hM (p + 1)
      have go : ∀ s : Nat, s ≤ 1 → ∃ g, fM_readPiece_89 (nI n) (nI s) (nI (4 * n + 1)) (rb_sI (rb_sF h 49 11 (nI (p + 1))) 54 (4 * n) (nI (letN (X.getD p 0) % 6))) = (fM_squareOf g).bind (fun u11 => if fM_fine u11.2 = true then (fM_on 50 u11.1 u11.2).bind fun u15 => if u15 = -1 then fM_readPiece_129 (nI n) (nI (p + 1)) u11.1 0 u11.2 else fM_readPiece_129 (nI n) (nI (p + 1)) u11.1 1 u11.2 else some u11.2) ∧ rp_M g 52 X 47 (p + 1) (-1) ∧ Ag [54, 1011, 1012] h g ∧ (∀ j, j < 4 * n → rb_hI g 54 j = rb_hI h 54 j) ∧ rb_hI g 54 (4 * n) = nI (letN (X.getD p 0) % 6) ∧ rb_hI g 54 (4 * n + 1) = nI s := fun s hs => by
        have A : Ag [54] (rb_sF h 49 11 (nI (p + 1))) (rb_sI (rb_sI (rb_sF h 49 11 (nI (p + 1))) 54 (4 * n) (nI (letN (X.getD p 0) % 6))) 54 (4 * n + 1) (nI s)) := Ag_sI (by decide) (Ag_sI (by decide) (Ag_refl _ _))
        have M2 := rp_M_ag M1 A (by decide)
        refine ⟨_, ?_, M2, Ag_trans (Ag_sF (by decide) (Ag_refl _ _)) (AgS (by decide) A), fun j hj => ?_, ?_, ?_⟩
        · unfold fM_readPiece_89
          rw [if_neg (oob_n (show 4 * n + 1 < 32 by omega) (by omega)), cl_n (by omega), M2.2.2.2.2.2.1]
        · simp only [hI_sI, hI_sJ, hI_sF, hI_sR, hI_cp, hJ_sI, hJ_sJ, hJ_sF, hJ_sR, hJ_cp, hF_sI, hF_sJ, hF_sF, hF_sR, hF_cp, hR_sI, hR_sJ, hR_sF, hR_sR, hR_cp]
          rw [if_neg (by omega), if_neg (by omega)]
        · simp only [hI_sI, hI_sJ, hI_sF, hI_sR, hI_cp, hJ_sI, hJ_sJ, hJ_sF, hJ_sR, hJ_cp, hF_sI, hF_sJ, hF_sF, hF_sR, hF_cp, hR_sI, hR_sJ, hR_sF, hR_sR, hR_cp]
          rw [if_neg (by omega), if_pos ⟨trivial, trivial⟩]
        · simp only [hI_sI, hI_sJ, hI_sF, hI_sR, hI_cp, hJ_sI, hJ_sJ, hJ_sF, hJ_sR, hJ_cp, hF_sI, hF_sJ, hF_sF, hF_sR, hF_cp, hR_sI, hR_sJ, hR_sF, hR_sR, hR_cp]
          rw [if_pos ⟨trivial, trivial⟩]
      have kn : ∀ k, k ≠ -1 → k = nI (letN (X.getD p 0) % 6) → fM_readPiece_30 (nI n) (nI (X.getD p 0)) k h = if fM_in (nI (X.getD p 0)) 65 90 = true then fM_readPiece_89 (nI n) 0 (nI (4 * n + 1)) (rb_sI (rb_sF h 49 11 (nI (p + 1))) 54 (4 * n) (nI (letN (X.getD p 0) % 6))) else fM_readPiece_89 (nI n) 1 (nI (4 * n + 1)) (rb_sI (rb_sF h 49 11 (nI (p + 1))) 54 (4 * n) (nI (letN (X.getD p 0) % 6))) := fun k hk e => by
        unfold fM_readPiece_30
        rw [if_neg hk, n4, if_neg (oob_n (show 4 * n < 32 by omega) (by omega)), cl_n (by omega), hM.2.2.2.2.2.1, nI_1, nI_1, e]
      have k6 : nI (letN (X.getD p 0) % 6) ≠ -1 := fun z => m1_nI (show letN (X.getD p 0) % 6 < 2 ^ 31 by omega) z.symm
      rw [if_neg hl] at lm1
      have lm2 := lm2 (by omega)
      have e : fM_readPiece (nI n) h = if letN (X.getD p 0) < 6 then fM_readPiece_89 (nI n) 0 (nI (4 * n + 1)) (rb_sI (rb_sF h 49 11 (nI (p + 1))) 54 (4 * n) (nI (letN (X.getD p 0) % 6))) else fM_readPiece_89 (nI n) 1 (nI (4 * n + 1)) (rb_sI (rb_sF h 49 11 (nI (p + 1))) 54 (4 * n) (nI (letN (X.getD p 0) % 6))) := by
        unfold fM_readPiece fM_readPiece_0
        rw [rp_here hM hX (by omega), Option.bind_some, hh]
        simp only [rb_lt]
        by_cases z : fM_in (nI (X.getD p 0)) 65 90 = true
        · rw [if_pos z] at lm1 ⊢
          rw [kn _ (by rw [lm1]; exact k6) lm1, if_pos z, if_pos (by rw [lm2] at z; simpa using z)]
        · rw [if_neg z] at lm1 ⊢
          rw [kn _ (by rw [lm1]; exact k6) lm1, if_neg z, if_neg (by rw [lm2] at z; simpa using z)]
      rw [e]
      by_cases z : letN (X.getD p 0) < 6
      · rw [if_pos z, show letN (X.getD p 0) / 6 = 0 by omega]
        exact go 0 (by omega)
      · rw [if_neg z, show letN (X.getD p 0) / 6 = 1 by omega]
        exact go 1 (by omega)
    have nm : ∀ q, q ≤ 47 → nI q ≠ -1 := fun q hq z => m1_nI (show q < 2 ^ 31 by omega) z.symm
    -- the square
    by_cases s1 : sgIn X (p + 1) 97 5
    · by_cases s2 : sgIn X (p + 2) 49 5
      · have qlt : (X.getD (p + 1) 0 - 97) + 5 * (X.getD (p + 2) 0 - 49) < 25 := by unfold sgIn at s1 s2; omega
        have sq : ∀ h g, Ag [54, 1011, 1012] h g → RM h 50 B0 → toldN h (bN B0) n B → rp_M g 52 X 47 (p + 1) (-1) → (∀ j, j < 4 * n → rb_hI g 54 j = rb_hI h 54 j) → rb_hI g 54 (4 * n) = nI (letN (X.getD p 0) % 6) → rb_hI g 54 (4 * n + 1) = nI (letN (X.getD p 0) / 6) → ∃ g1, (fM_squareOf g).bind (fun u11 => if fM_fine u11.2 = true then (fM_on 50 u11.1 u11.2).bind fun u15 => if u15 = -1 then fM_readPiece_129 (nI n) (nI (p + 1)) u11.1 0 u11.2 else fM_readPiece_129 (nI n) (nI (p + 1)) u11.1 1 u11.2 else some u11.2) = (if who B0 ((X.getD (p + 1) 0 - 97) + 5 * (X.getD (p + 2) 0 - 49)) = bN B0 then fM_readPiece_129 (nI n) (nI (p + 1)) (nI ((X.getD (p + 1) 0 - 97) + 5 * (X.getD (p + 2) 0 - 49))) 0 g1 else fM_readPiece_129 (nI n) (nI (p + 1)) (nI ((X.getD (p + 1) 0 - 97) + 5 * (X.getD (p + 2) 0 - 49))) 1 g1) ∧ rp_M g1 52 X 47 (p + 3) (-1) ∧ toldN g1 (bN B0) n B ∧ Ag [54, 1011, 1012] h g1 ∧ (∀ j, j < 4 * n → rb_hI g1 54 j = rb_hI h 54 j) ∧ rb_hI g1 54 (4 * n) = nI (letN (X.getD p 0) % 6) ∧ rb_hI g1 54 (4 * n + 1) = nI (letN (X.getD p 0) / 6) := by
          intro h g A R0 ht M lo e0 e1
          rcases rp_square M hX (by omega) with ⟨b1, b2, b3, g1, b4, b5, b6⟩ | ⟨q, b1, b2⟩
          · refine ⟨g1, ?_, b5, fun k hk => ?_, Ag_trans A (AgS (by decide) b6), fun j hj => (AgI b6 (by decide) j).trans (lo j hj), (AgI b6 (by decide) _).trans e0, (AgI b6 (by decide) _).trans e1⟩
            · have R1 : RM g1 50 B0 := RMn_ag R0 (Ag_trans A (AgS (by decide) b6)) (by decide)
              have b4 : fM_squareOf g = some (nI ((X.getD (p + 1) 0 - 97) + 5 * (X.getD (p + 2) 0 - 49)), g1) := b4
              rw [b4, Option.bind_some]
              dsimp only
              rw [rp_fine b5, if_pos rfl, M_on R1 hW0 (by omega), Option.bind_some]
              have wl : who B0 ((X.getD (p + 1) 0 - 97) + 5 * (X.getD (p + 2) 0 - 49)) ≤ bN B0 := fst1_le _ _
              have h08 := hW0.1
              generalize who B0 ((X.getD (p + 1) 0 - 97) + 5 * (X.getD (p + 2) 0 - 49)) = w0 at wl ⊢
              by_cases z : w0 < bN B0
              · rw [if_pos z, if_neg (fun y => m1_nI (show w0 < 2 ^ 31 by omega) y.symm), if_neg (by omega)]
              · rw [if_neg z, if_pos rfl, if_pos (by omega)]
            · obtain ⟨q1, q2, q3, q4⟩ := ht k hk
              rw [AgI b6 (by decide), AgI b6 (by decide), AgI b6 (by decide), AgI b6 (by decide), lo _ (by omega), lo _ (by omega), lo _ (by omega), lo _ (by omega)]
              exact ⟨q1, q2, q3, q4⟩
          · rcases b1 with ⟨-, b1⟩ | ⟨-, -, b1⟩
            · exact absurd s1 b1
            · exact absurd s2 b1
        by_cases fr : freeB B ((X.getD (p + 1) 0 - 97) + 5 * (X.getD (p + 2) 0 - 49))
        · obtain ⟨fr0, fr1⟩ := (free_split ho).mp fr
          have dg : ∀ h, rp_M h 52 X 47 p (-1) → RM h 50 B0 → toldN h (bN B0) n B → ∃ g2, fM_readPiece (nI n) h = ((fM_oneOf 48 10 g2).bind fun u21 => (fM_oneOf 48 10 u21.2).bind fun u23 => if rb_oob (4 * nI n + 3) 32 then none else some (rb_sI u23.2 54 (4 * nI n + 3).toNatClampNeg (10 * u21.1 + u23.1))) ∧ rp_M g2 52 X 47 (p + 3) (-1) ∧ toldN h (bN B0) n B ∧ Ag [54, 1011, 1012] h g2 ∧ (∀ j, j < 4 * n → rb_hI g2 54 j = rb_hI h 54 j) ∧ rb_hI g2 54 (4 * n) = nI (letN (X.getD p 0) % 6) ∧ rb_hI g2 54 (4 * n + 1) = nI (letN (X.getD p 0) / 6) ∧ rb_hI g2 54 (4 * n + 2) = nI ((X.getD (p + 1) 0 - 97) + 5 * (X.getD (p + 2) 0 - 49)) := fun h hM hR0 ht => by
            obtain ⟨g, a1, a2, a3, a4, a5, a6⟩ := head h hM
            obtain ⟨g1, b1, b2, b3, b4, b5, b6, b7⟩ := sq h g a3 hR0 ht a2 a4 a5 a6
            have A2 : Ag [54] g1 (rb_sI g1 54 (4 * n + 2) (nI ((X.getD (p + 1) 0 - 97) + 5 * (X.getD (p + 2) 0 - 49)))) := Ag_sI (by decide) (Ag_refl _ _)
            refine ⟨rb_sI g1 54 (4 * n + 2) (nI ((X.getD (p + 1) 0 - 97) + 5 * (X.getD (p + 2) 0 - 49))), ?_, rp_M_ag b2 A2 (by decide), ht, Ag_trans b4 (AgS (by decide) A2), fun j hj => ?_, ?_, ?_, ?_⟩
            · rw [a1, b1, if_pos (who_free.mpr fr0)]
              unfold fM_readPiece_129
              rw [M_told b3 hP hn qlt 0 0, if_pos ⟨rfl, fr1⟩, Option.bind_some, if_pos rfl]
              have e2 : (4 : Int32) * nI n + 2 = nI (4 * n + 2) := by rw [n4]; exact nI_add _ 2
              rw [e2, if_neg (oob_n (show 4 * n + 2 < 32 by omega) (by omega)), cl_n (by omega)]
            · simp only [hI_sI, hI_sJ, hI_sF, hI_sR, hI_cp, hJ_sI, hJ_sJ, hJ_sF, hJ_sR, hJ_cp, hF_sI, hF_sJ, hF_sF, hF_sR, hF_cp, hR_sI, hR_sJ, hR_sF, hR_sR, hR_cp]
              rw [if_neg (by omega)]
              exact b5 j hj
            · simp only [hI_sI, hI_sJ, hI_sF, hI_sR, hI_cp, hJ_sI, hJ_sJ, hJ_sF, hJ_sR, hJ_cp, hF_sI, hF_sJ, hF_sF, hF_sR, hF_cp, hR_sI, hR_sJ, hR_sF, hR_sR, hR_cp]
              rw [if_neg (by omega)]
              exact b6
            · simp only [hI_sI, hI_sJ, hI_sF, hI_sR, hI_cp, hJ_sI, hJ_sJ, hJ_sF, hJ_sR, hJ_cp, hF_sI, hF_sJ, hF_sF, hF_sR, hF_cp, hR_sI, hR_sJ, hR_sF, hR_sR, hR_cp]
              rw [if_neg (by omega)]
              exact b7
            · simp only [hI_sI, hI_sJ, hI_sF, hI_sR, hI_cp, hJ_sI, hJ_sJ, hJ_sF, hJ_sR, hJ_cp, hF_sI, hF_sJ, hF_sF, hF_sR, hF_cp, hR_sI, hR_sJ, hR_sF, hR_sR, hR_cp]
              rw [if_pos ⟨trivial, trivial⟩]
          have e3 : (4 : Int32) * nI n + 3 = nI (4 * n + 3) := by rw [n4]; exact nI_add _ 3
          have o3 : ¬ rb_oob ((4 : Int32) * nI n + 3) 32 := by rw [e3]; exact oob_n (by omega) (by omega)
          by_cases s3 : sgIn X (p + 3) 48 10
          · by_cases s4 : sgIn X (p + 4) 48 10
            · have l4 := sgIn_lt s4 (by omega)
              refine Or.inr ⟨letN (X.getD p 0) % 6, letN (X.getD p 0) / 6, (X.getD (p + 1) 0 - 97) + 5 * (X.getD (p + 2) 0 - 49), 10 * (X.getD (p + 3) 0 - 48) + (X.getD (p + 4) 0 - 48), by omega, by omega, qlt, by unfold sgIn at s3 s4; omega, by omega, fr, fun h hT hR => (cl h hT hR).2.2.2.2.2 s1 s2 fr s3 s4, fun h hT => ⟨at_any hT hX.1 hX.2.1 (by omega), ?_, squareAt_n hT hX.1 hX.2.1 (by omega) s1.1 s2.1, numberAt_n hT hX.1 hX.2.1 (by omega) s3.1 s4.1⟩, fun h hM hR0 ht => ?_⟩
              · rw [rp_ixL c0, if_neg hl, show 6 * (letN (X.getD p 0) / 6) + letN (X.getD p 0) % 6 = letN (X.getD p 0) by omega]
              · obtain ⟨g2, d1, d2, d3, d4, d5, d6, d7, d8⟩ := dg h hM hR0 ht
                rcases one_or (f := 48) (m := 10) d2 hX (by omega) (by omega) (by omega) (by omega) with ⟨f1, f2, g3, f3, f4, f5⟩ | ⟨f1, -⟩
                · rcases one_or (f := 48) (m := 10) f4 hX (by omega) (by omega) (by omega) (by omega) with ⟨i1, i2, g4, i3, i4, i5⟩ | ⟨i1, -⟩
                  · have A5 : Ag [54] g4 (rb_sI g4 54 (4 * n + 3) (nI (10 * (X.getD (p + 3) 0 - 48) + (X.getD (p + 4) 0 - 48)))) := Ag_sI (by decide) (Ag_refl _ _)
                    refine ⟨rb_sI g4 54 (4 * n + 3) (nI (10 * (X.getD (p + 3) 0 - 48) + (X.getD (p + 4) 0 - 48))), ?_, rp_M_ag i4 A5 (by decide), ?_, Ag_trans d4 (Ag_trans (AgS (by decide) f5) (Ag_trans (AgS (by decide) i5) (AgS (by decide) A5)))⟩
                    · rw [d1, show fM_oneOf (48 : Int32) 10 g2 = _ from f3, Option.bind_some]
                      dsimp only
                      rw [show fM_oneOf (48 : Int32) 10 g3 = _ from i3, Option.bind_some, if_neg o3, e3, cl_n (by omega)]
                      dsimp only
                      rw [show (10 : Int32) * nI (X.getD (p + 3) 0 - 48) = nI (10 * (X.getD (p + 3) 0 - 48)) from pk_mul 10 _, nI_add]
                    · have k : ∀ j, rb_hI g4 54 j = rb_hI g2 54 j := fun j => (AgI i5 (by decide) j).trans (AgI f5 (by decide) j)
                      refine toldN_add ht ho.1 _ _ _ _ (fun j hj => ?_) ?_ ?_ ?_ ?_
                      · simp only [hI_sI, hI_sJ, hI_sF, hI_sR, hI_cp, hJ_sI, hJ_sJ, hJ_sF, hJ_sR, hJ_cp, hF_sI, hF_sJ, hF_sF, hF_sR, hF_cp, hR_sI, hR_sJ, hR_sF, hR_sR, hR_cp]
                        rw [if_neg (by omega), k]
                        exact d5 j hj
                      · simp only [hI_sI, hI_sJ, hI_sF, hI_sR, hI_cp, hJ_sI, hJ_sJ, hJ_sF, hJ_sR, hJ_cp, hF_sI, hF_sJ, hF_sF, hF_sR, hF_cp, hR_sI, hR_sJ, hR_sF, hR_sR, hR_cp]
                        rw [if_neg (by omega), k]
                        exact d6
                      · simp only [hI_sI, hI_sJ, hI_sF, hI_sR, hI_cp, hJ_sI, hJ_sJ, hJ_sF, hJ_sR, hJ_cp, hF_sI, hF_sJ, hF_sF, hF_sR, hF_cp, hR_sI, hR_sJ, hR_sF, hR_sR, hR_cp]
                        rw [if_neg (by omega), k]
                        exact d7
                      · simp only [hI_sI, hI_sJ, hI_sF, hI_sR, hI_cp, hJ_sI, hJ_sJ, hJ_sF, hJ_sR, hJ_cp, hF_sI, hF_sJ, hF_sF, hF_sR, hF_cp, hR_sI, hR_sJ, hR_sF, hR_sR, hR_cp]
                        rw [if_neg (by omega), k]
                        exact d8
                      · simp only [hI_sI, hI_sJ, hI_sF, hI_sR, hI_cp, hJ_sI, hJ_sJ, hJ_sF, hJ_sR, hJ_cp, hF_sI, hF_sJ, hF_sF, hF_sR, hF_cp, hR_sI, hR_sJ, hR_sF, hR_sR, hR_cp]
                        rw [if_pos ⟨trivial, trivial⟩]
                  · exact absurd s4 i1
                · exact absurd s3 f1
            · refine Or.inl ⟨p + 4, by omega, fun h hT hR => (cl h hT hR).2.2.2.2.1 s1 s2 fr s3 s4, fun h hM hR0 ht => ?_⟩
              obtain ⟨g2, d1, d2, d3, d4, d5, d6, d7, d8⟩ := dg h hM hR0 ht
              rcases one_or (f := 48) (m := 10) d2 hX (by omega) (by omega) (by omega) (by omega) with ⟨f1, f2, g3, f3, f4, f5⟩ | ⟨f1, -⟩
              · rcases one_or (f := 48) (m := 10) f4 hX (by omega) (by omega) (by omega) (by omega) with ⟨i1, -⟩ | ⟨i1, g4, i3, i4, i5⟩
                · exact absurd i1 s4
                · have A5 : Ag [54] g4 (rb_sI g4 54 (4 * n + 3) (10 * nI (X.getD (p + 3) 0 - 48) + 0)) := Ag_sI (by decide) (Ag_refl _ _)
                  refine ⟨_, p + 4, ?_, rp_M_ag i4 A5 (by decide), Ag_trans d4 (Ag_trans (AgS (by decide) f5) (Ag_trans (AgS (by decide) i5) (AgS (by decide) A5)))⟩
                  rw [d1, show fM_oneOf (48 : Int32) 10 g2 = _ from f3, Option.bind_some]
                  dsimp only
                  rw [show fM_oneOf (48 : Int32) 10 g3 = _ from i3, Option.bind_some, if_neg o3, e3, cl_n (by omega)]
              · exact absurd s3 f1
          · refine Or.inl ⟨p + 3, by omega, fun h hT hR => (cl h hT hR).2.2.2.1 s1 s2 fr s3, fun h hM hR0 ht => ?_⟩
            obtain ⟨g2, d1, d2, d3, d4, d5, d6, d7, d8⟩ := dg h hM hR0 ht
            rcases one_or (f := 48) (m := 10) d2 hX (by omega) (by omega) (by omega) (by omega) with ⟨f1, -⟩ | ⟨f1, g3, f3, f4, f5⟩
            · exact absurd f1 s3
            · have A5 : Ag [54] g3 (rb_sI g3 54 (4 * n + 3) (10 * 0 + 0)) := Ag_sI (by decide) (Ag_refl _ _)
              refine ⟨_, p + 3, ?_, rp_M_ag f4 A5 (by decide), Ag_trans d4 (Ag_trans (AgS (by decide) f5) (AgS (by decide) A5))⟩
              rw [d1, show fM_oneOf (48 : Int32) 10 g2 = _ from f3, Option.bind_some]
              dsimp only
              rw [rp_oneOf2 f4 (nm _ (by omega)), Option.bind_some, if_neg o3, e3, cl_n (by omega)]
        · refine Or.inl ⟨p + 1, by omega, fun h hT hR => (cl h hT hR).2.2.1 s1 s2 fr, fun h hM hR0 ht => ?_⟩
          obtain ⟨g, a1, a2, a3, a4, a5, a6⟩ := head h hM
          obtain ⟨g1, b1, b2, b3, b4, b5, b6, b7⟩ := sq h g a3 hR0 ht a2 a4 a5 a6
          refine ⟨rb_sF g1 49 12 (nI (p + 1)), p + 3, ?_, rp_M_w b2 (nI (p + 1)), Ag_sF (by decide) b4⟩
          have fa : fM_fault (nI (p + 1)) g1 = rb_sF g1 49 12 (nI (p + 1)) := by
            unfold fM_fault fM_fault_0
            rw [rp_fine b2, if_pos rfl]
          rw [a1, b1]
          by_cases z : who B0 ((X.getD (p + 1) 0 - 97) + 5 * (X.getD (p + 2) 0 - 49)) = bN B0
          · rw [if_pos z]
            unfold fM_readPiece_129
            rw [M_told b3 hP hn qlt 0 0, if_neg (fun y => fr ((free_split ho).mpr ⟨who_free.mp z, y.2⟩)), if_pos rfl, Option.bind_some, if_neg (by decide)]
            simp only [rb_lt]
            rw [fa]
          · rw [if_neg z]
            unfold fM_readPiece_129
            rw [M_told b3 hP hn qlt 1 0, if_neg (fun y => absurd y.1 (by decide)), if_neg (by decide), Option.bind_some, if_neg (by split <;> decide)]
            simp only [rb_lt]
            rw [fa]
      · refine Or.inl ⟨p + 2, by omega, fun h hT hR => (cl h hT hR).2.1 s1 s2, fun h hM hR0 ht => ?_⟩
        obtain ⟨g, a1, a2, a3, a4, a5, a6⟩ := head h hM
        rcases rp_square a2 hX (by omega) with ⟨b1, b2, -⟩ | ⟨q, b1, x, h', b2, b3, b4⟩
        · exact absurd b2 s2
        · rcases b1 with ⟨-, b1⟩ | ⟨rfl, -, b1⟩
          · exact absurd s1 b1
          · refine ⟨h', p + 2, ?_, b3, Ag_trans a3 (AgS (by decide) b4)⟩
            rw [a1, b2, Option.bind_some]
            dsimp only
            rw [rp_ill b3 (nm _ (by omega)), if_neg (by decide)]
    · refine Or.inl ⟨p + 1, by omega, fun h hT hR => (cl h hT hR).1 s1, fun h hM hR0 ht => ?_⟩
      obtain ⟨g, a1, a2, a3, a4, a5, a6⟩ := head h hM
      rcases rp_square a2 hX (by omega) with ⟨b1, -⟩ | ⟨q, b1, x, h', b2, b3, b4⟩
      · exact absurd b1 s1
      · rcases b1 with ⟨rfl, b1⟩ | ⟨-, b1, -⟩
        · refine ⟨h', p + 1, ?_, b3, Ag_trans a3 (AgS (by decide) b4)⟩
          rw [a1, b2, Option.bind_some]
          dsimp only
          rw [rp_ill b3 (nm _ (by omega)), if_neg (by decide)]
        · exact absurd b1 s1
end
