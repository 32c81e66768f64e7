/-! things: of the model's descent -/
section
variable {X : List Nat} {p d : Nat} {rec : Nat → Int32 → rb_H → Option (Int32 × rb_H)}
theorem in_digit (x : Int32) : fM_in x 48 57 = fB_isDigit x := rfl
theorem letter_le : ∀ k, k < 256 → fM_letterOf (nI k) = -1 ∨ ∃ l, l < 7 ∧ fM_letterOf (nI k) = nI l := by
  have : ∀ k, k < 256 → fM_letterOf (nI k) = -1 ∨ fM_letterOf (nI k) = nI 0 ∨ fM_letterOf (nI k) = nI 1 ∨ fM_letterOf (nI k) = nI 2 ∨ fM_letterOf (nI k) = nI 3 ∨ fM_letterOf (nI k) = nI 4 ∨ fM_letterOf (nI k) = nI 5 ∨ fM_letterOf (nI k) = nI 6 := by decide +kernel
  intro k hk
  rcases this k hk with e | e | e | e | e | e | e | e
  · exact Or.inl e
  · exact Or.inr ⟨0, by decide, e⟩
  · exact Or.inr ⟨1, by decide, e⟩
  · exact Or.inr ⟨2, by decide, e⟩
  · exact Or.inr ⟨3, by decide, e⟩
  · exact Or.inr ⟨4, by decide, e⟩
  · exact Or.inr ⟨5, by decide, e⟩
  · exact Or.inr ⟨6, by decide, e⟩
theorem cmpt_thing : ∀ l, l < 7 → cmpt [-1 - nI l] (fun th => th l) := by
  intro l hl th st
  have e : ∀ l, l < 7 → (-1 : Int32) - nI l ≠ 1256 ∧ ¬ (1000 : Int32) ≤ -1 - nI l ∧ ¬ (0 : Int32) ≤ -1 - nI l ∧ (-1 : Int32) - (-1 - nI l) = nI l := by decide +kernel
  obtain ⟨e1, e2, e3, e4⟩ := e l hl
  unfold xs
  rw [List.reverse_singleton, List.foldl_cons, List.foldl_nil]
  unfold x1 xT
  rw [if_neg e1, if_neg e2, if_neg e3, e4, if_neg (nI_pos (by omega)), if_neg (show ¬ (7 : Int32) ≤ nI l from nI_ge (b := 7) hl (by omega)), cl_n (by omega)]
/-- a sign that can't be a thing -/
theorem thing_no (hX : rp_X X 40) (hp : p ≤ 40) (h1 : hereN X 40 p ≠ 45) (h2 : hereN X 40 p = 40 → d = 4) (h3 : fB_isDigit (hereN X 40 p) = false) (h4 : fM_letterOf (hereN X 40 p) = -1) : rp_O (fM_thing rec (nI d)) X p p (nI p) (fun _ => 0) := by
  intro h a hM
  refine ⟨0, rb_sF h 49 12 (nI p), ?_, rp_M_w hM (nI p), Ag_sF (by decide) (Ag_refl _ _), fun z => absurd z.symm (m1_nI (by omega))⟩
  have tail : fM_thing_67 rec (hereN X 40 p) h = some (0, rb_sF h 49 12 (nI p)) := by
    unfold fM_thing_67
    rw [in_digit, h3, if_neg (by decide)]
    simp only [rb_lt]
    rw [h4, if_pos rfl, rp_fault hM]
  unfold fM_thing fM_thing_0
  rw [rp_pass hM hX (by omega), if_neg h1, Option.bind_some]
  dsimp only
  rw [if_neg (by decide), rp_fine hM, if_pos rfl, rp_here hM hX (by omega), Option.bind_some]
  by_cases c : hereN X 40 p = 40
  · rw [if_pos c, h2 c, if_pos (by decide), tail]
  · rw [if_neg c, tail]
/-- one that can't, here: the machine takes it neither -/
theorem thing_bad {o w : List Int32} {g : Nat} {c : Nat → Bool} (hX : rp_X X 40) (hp : p ≤ min X.length 40) (h1 : hereN X 40 p ≠ 45) (h2 : hereN X 40 p = 40 → d = 4) (h3 : fB_isDigit (hereN X 40 p) = false) (h4 : fM_letterOf (hereN X 40 p) = -1) : rp_D X (fM_thing rec (nI d)) 4 p o w d g c := by
  refine Or.inr ⟨p, Nat.le_refl _, hp, ?_, thing_no hX (by omega) h1 h2 h3 h4⟩
  by_cases c0 : p < min X.length 40
  · refine Or.inl (mG_none c0 ?_)
    rw [hereN_y c0] at h1 h2 h3 h4
    unfold mTake
    dsimp only
    rw [if_neg (by rw [h3]; decide), if_pos rfl, if_neg h1]
    by_cases c1 : nI (X.getD p 0) = 40
    · rw [if_pos c1, if_neg (by rw [h2 c1]; decide)]
    · rw [if_neg c1, h4, if_neg (by decide)]
  · exact Or.inr ⟨by omega, _, mG_end c0, Or.inl rfl⟩
theorem rank_40 : fU_rankOf 40 = 0 := by decide +kernel
theorem dig_no {x : Int32} (h : fB_isDigit x = false) {A : Type} {y z : A} : (if fB_isDigit x = true then y else z) = z := by rw [h]; rfl
theorem rp_thingD (hX : rp_X X 40) (hp : p ≤ min X.length 40) (hd : d ≤ 4)
    (H3 : p < min X.length 40 → ∀ o w g c, rp_D X (rec 3 (nI d)) 4 (p + 1) o w d g c)
    (H0 : p < min X.length 40 → d < 4 → ∀ o w g c, topL w 1 → c (d + 1) = false → rp_D X (rec 0 (nI (d + 1))) 1 (p + 1) o w (d + 1) g c) :
    ∀ o w g c, rp_D X (fM_thing rec (nI d)) 4 p o w d g c := by
  intro o w g c
  by_cases c0 : p < min X.length 40
  · have hk := hX.2.1 _ (getD_mem (d := 0) (show p < X.length by omega))
    have hh := hereN_y c0
    by_cases x45 : nI (X.getD p 0) = 45
    · have st : mTake (o, w, d, g, true, c) (nI (X.getD p 0)) = some (o, 256 :: w, d, 0, true, c) := by
        unfold mTake
        dsimp only
        rw [x45, dig_no (by decide +kernel), if_pos rfl, if_pos rfl]
      rcases H3 c0 o (256 :: w) 0 c with ⟨q, o', W, g', c', C, v, ⟨e1, e2, e3, e4, e5, e6, e7, e8, e9⟩, eO⟩ | ⟨q, e0, e1, e2, eO⟩
      · refine Or.inl ⟨q, o', W ++ [256], g', c', (1000 + 256) :: C, fun th => -v th, ⟨by omega, e2, ?_, ?_, ?_, cmpt_neg e6, by simp, e8, e9⟩, fun h a hM => ?_⟩
        · rw [mG_step c0 st, e3, List.append_assoc]
          rfl
        · intro a ha
          rcases List.mem_append.mp ha with z | z
          · exact e4 a z
          · rw [List.mem_singleton.mp z]
            decide +kernel
        · rw [mAll_app, e5]
          rfl
        · obtain ⟨x, h', r1, r2, r3, r4⟩ := eO _ a (rp_M_at hM (p + 1))
          have A : Ag [1011, 1012] h (rb_sF h 49 11 (nI (p + 1))) := Ag_sF (by decide) (Ag_refl _ _)
          refine ⟨-x, h', ?_, r2, Ag_trans A r3, fun z => by rw [r4 z, thM_ag A (by decide)]⟩
          unfold fM_thing fM_thing_0
          rw [rp_pass hM hX (by omega), hh, if_pos x45, Option.bind_some]
          dsimp only
          rw [if_pos rfl, r1]
          rfl
      · refine Or.inr ⟨q, by omega, e1, rp_F_eq (mG_step c0 st) e2, fun h a hM => ?_⟩
        obtain ⟨x, h', r1, r2, r3, r4⟩ := eO _ a (rp_M_at hM (p + 1))
        have A : Ag [1011, 1012] h (rb_sF h 49 11 (nI (p + 1))) := Ag_sF (by decide) (Ag_refl _ _)
        refine ⟨-x, h', ?_, r2, Ag_trans A r3, fun z => absurd z.symm (m1_nI (by omega))⟩
        unfold fM_thing fM_thing_0
        rw [rp_pass hM hX (by omega), hh, if_pos x45, Option.bind_some]
        dsimp only
        rw [if_pos rfl, r1]
        rfl
    · by_cases x40 : nI (X.getD p 0) = 40
      · by_cases d4 : d < 4
        · have st : mTake (o, w, d, g, true, c) (nI (X.getD p 0)) = some (o, 40 :: w, d + 1, 0, true, fun i => if i = d + 1 then false else c i) := by
            unfold mTake
            dsimp only
            rw [x40, dig_no (by decide +kernel), if_pos rfl, if_neg (by decide), if_pos rfl, if_pos d4]
          have mod : ∀ h a, rp_M h a X 40 p (-1) → fM_thing rec (nI d) h = (rec 0 (nI (d + 1)) (rb_sF h 49 11 (nI (p + 1)))).bind fun u18 => (fM_need 41 u18.2).bind fun u20 => some (u18.1, u20) := fun h a hM => by
            unfold fM_thing fM_thing_0
            rw [rp_pass hM hX (by omega), hh, if_neg x45, Option.bind_some]
            dsimp only
            rw [if_neg (by decide), rp_fine hM, if_pos rfl, rp_here hM hX (by omega), Option.bind_some, hh, if_pos x40, if_neg (show ¬ (4 : Int32) ≤ nI d from nI_ge (b := 4) d4 (by omega)), hM.2.2.2.2.2.1, nI_1, nI_1]
          rcases H0 c0 d4 o (40 :: w) 0 (fun i => if i = d + 1 then false else c i) (fun a ha => by cases ha; rw [rank_40]; decide) (if_pos rfl) with ⟨q, o', W, g', c', C, v, ⟨e1, e2, e3, e4, e5, e6, e7, e8, e9⟩, eO⟩ | ⟨q, e0, e1, e2, eO⟩
          · by_cases z41 : hereN X 40 q = 41
            · have cq : q < min X.length 40 := by
                by_cases z : q < min X.length 40
                · exact z
                · rw [hereN_n z] at z41
                  exact absurd z41 (by decide)
              have st2 : mTake (o', W ++ 40 :: w, d + 1, g', false, c') (nI (X.getD q 0)) = some (C ++ o, w, d, 0, false, c') := by
                rw [hereN_y cq] at z41
                unfold mTake
                dsimp only
                rw [z41, dig_no (by decide +kernel), if_neg (by decide), if_pos rfl, if_pos (by omega), mRel_all 1 W o' (40 :: w) e4 (fun a ha => by cases ha; rw [rank_40]; decide), e5]
                rfl
              refine Or.inl ⟨q + 1, C ++ o, [], 0, c', C, v, ⟨by omega, by omega, ?_, fun a ha => (by cases ha), rfl, e6, e7, fun i hi => ?_, fun _ => Or.inl (by omega), fun z => absurd z (by omega), fun z => absurd z (by omega), fun z => absurd z (by omega)⟩, fun h a hM => ?_⟩
              · rw [mG_step c0 st, e3, mG_step cq st2]
                rfl
              · exact (e8 i (Or.inl (by omega))).trans (if_neg (by omega))
              · obtain ⟨x, h', r1, r2, r3, r4⟩ := eO _ a (rp_M_at hM (p + 1))
                have A : Ag [1011, 1012] h (rb_sF h 49 11 (nI (p + 1))) := Ag_sF (by decide) (Ag_refl _ _)
                refine ⟨x, _, ?_, rp_M_at r2 (q + 1), Ag_sF (by decide) (Ag_trans A r3), fun z => by rw [r4 z, thM_ag A (by decide)]⟩
                rw [mod h a hM, r1, Option.bind_some, rp_need r2 hX (by omega), if_pos z41]
                rfl
            · refine Or.inr ⟨q, by omega, e2, rp_F_eq ((mG_step c0 st).trans e3) ?_, fun h a hM => ?_⟩
              · by_cases cq : q < min X.length 40
                · exact Or.inl (mG_none cq (take_none hX cq e9 (Or.inl z41)))
                · exact Or.inr ⟨by omega, _, mG_end cq, Or.inr (by dsimp only; omega)⟩
              · obtain ⟨x, h', r1, r2, r3, r4⟩ := eO _ a (rp_M_at hM (p + 1))
                have A : Ag [1011, 1012] h (rb_sF h 49 11 (nI (p + 1))) := Ag_sF (by decide) (Ag_refl _ _)
                refine ⟨x, _, ?_, rp_M_w r2 (nI q), Ag_sF (by decide) (Ag_trans A r3), fun z => absurd z.symm (m1_nI (by omega))⟩
                rw [mod h a hM, r1, Option.bind_some, rp_need r2 hX (by omega), if_neg z41]
                rfl
          · refine Or.inr ⟨q, by omega, e1, rp_F_eq (mG_step c0 st) e2, fun h a hM => ?_⟩
            obtain ⟨x, h', r1, r2, r3, r4⟩ := eO _ a (rp_M_at hM (p + 1))
            have A : Ag [1011, 1012] h (rb_sF h 49 11 (nI (p + 1))) := Ag_sF (by decide) (Ag_refl _ _)
            refine ⟨x, h', ?_, r2, Ag_trans A r3, fun z => absurd z.symm (m1_nI (by omega))⟩
            rw [mod h a hM, r1, Option.bind_some, rp_need2 r2 (fun z => m1_nI (show q < 2 ^ 31 by omega) z.symm)]
            rfl
        · refine thing_bad hX hp (by rw [hh]; exact x45) (fun _ => by omega) (by rw [hh, x40]; decide +kernel) (by rw [hh, x40]; decide +kernel)
      · have mod : ∀ h a, rp_M h a X 40 p (-1) → fM_thing rec (nI d) h = fM_thing_67 rec (nI (X.getD p 0)) h := fun h a hM => by
          unfold fM_thing fM_thing_0
          rw [rp_pass hM hX (by omega), hh, if_neg x45, Option.bind_some]
          dsimp only
          rw [if_neg (by decide), rp_fine hM, if_pos rfl, rp_here hM hX (by omega), Option.bind_some, hh, if_neg x40]
        cases i1 : fB_isDigit (nI (X.getD p 0)) with
        | true =>
          have e : fB_isDigit (nI (X.getD p 0)) = (decide (48 ≤ X.getD p 0) && decide (X.getD p 0 ≤ 57)) := M_in_n (a := 48) (b := 57) (by omega) (by omega) (by omega)
          have r := i1
          rw [e] at r
          simp only [Bool.and_eq_true, decide_eq_true_eq] at r
          have e48 : nI (X.getD p 0) - 48 = nI (X.getD p 0 - 48) := nI_sub (b := 48) r.1
          have st : mTake (o, w, d, g, true, c) (nI (X.getD p 0)) = some (nI (X.getD p 0 - 48) :: o, w, d, 1, false, c) := by
            unfold mTake
            dsimp only
            rw [if_pos i1, if_pos rfl, e48]
          obtain ⟨q, g', x', r1, r2, r3, r4, r5, r6⟩ := rp_num (o := o) (w := w) (d := d) (c := c) hX 2 1 (p + 1) (X.getD p 0 - 48) (by omega) (by omega) (by omega) (by omega) (by omega) (by omega)
          refine Or.inl ⟨q, nI x' :: o, [], g', c, [nI x'], fun _ => nI x', ⟨by omega, r2, (mG_step c0 st).trans r4, fun a ha => (by cases ha), rfl, cmpt_num r3, by simp, fun _ _ => rfl, r5, fun z => absurd z (by omega), fun z => absurd z (by omega), fun z => absurd z (by omega)⟩, fun h a hM => ?_⟩
          rcases rp_oneOf (f := 48) (m := 10) hM hX (by omega) (by omega) (by omega) with ⟨k, k1, k2, k3, k4, k5, k6⟩ | ⟨k1, k2⟩
          · obtain ⟨h', z1, z2, z3⟩ := r6 _ a rb_fuel (rp_M_at hM (p + 1)) (by rw [rb_fuel_eq]; omega)
            refine ⟨nI x', h', ?_, z2, Ag_trans (Ag_sF (by decide) (Ag_refl _ _)) z3, fun _ => rfl⟩
            rw [mod h a hM]
            unfold fM_thing_67
            rw [in_digit, i1, if_pos rfl]
            unfold fM_number fM_number_0
            rw [show fM_oneOf (48 : Int32) 10 h = _ from k6, Option.bind_some, ← k3]
            dsimp only
            rw [show (1 : Int32) = nI 1 from rfl, z1]
            rfl
          · omega
        | false =>
          rcases letter_le _ hk with hl | ⟨l, hl, el⟩
          · exact thing_bad hX hp (by rw [hh]; exact x45) (fun z => absurd (hh.symm.trans z) x40) (by rw [hh]; exact i1) (by rw [hh]; exact hl)
          · have st : mTake (o, w, d, g, true, c) (nI (X.getD p 0)) = some ((-1 - nI l) :: o, w, d, 0, false, c) := by
              unfold mTake
              dsimp only
              rw [dig_no i1, if_pos rfl, if_neg x45, if_neg x40, el, if_pos (nI_pos' (by omega))]
            refine Or.inl ⟨p + 1, (-1 - nI l) :: o, [], 0, c, [-1 - nI l], fun th => th l, ⟨by omega, by omega, mG_step c0 st, fun a ha => (by cases ha), rfl, cmpt_thing l hl, by simp, fun _ _ => rfl, fun _ => Or.inl (by omega), fun z => absurd z (by omega), fun z => absurd z (by omega), fun z => absurd z (by omega)⟩, fun h a hM => ?_⟩
            have A : Ag [1011, 1012] h (rb_sF h 49 11 (nI (p + 1))) := Ag_sF (by decide) (Ag_refl _ _)
            refine ⟨thM h l, rb_sF h 49 11 (nI (p + 1)), ?_, rp_M_at hM (p + 1), A, fun _ => rfl⟩
            rw [mod h a hM]
            unfold fM_thing_67 thM
            rw [in_digit, i1, if_neg (by decide)]
            simp only [rb_lt, el]
            rw [if_neg (fun z => m1_nI (show l < 2 ^ 31 by omega) z.symm), hM.2.2.2.2.2.1, nI_1, if_pos hl, hF_sF, if_neg (show ¬ (49 = 49 ∧ 17 = 11) by decide), hI_sF, if_neg (oob_n hl (by omega)), cl_n (by omega)]
            by_cases y : rb_hF h 49 17 = 0
            · rw [if_pos y, if_pos y]
            · rw [if_neg y, if_neg y]
  · exact thing_bad hX hp (by rw [hereN_n c0]; decide) (fun z => by rw [hereN_n c0] at z; exact absurd z (by decide)) (by rw [hereN_n c0]; decide +kernel) (by rw [hereN_n c0]; decide +kernel)
end
