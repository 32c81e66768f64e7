/-! comparisons; the descent as a whole -/
section
variable {X : List Nat} {p d : Nat} {rec : Nat → Int32 → rb_H → Option (Int32 × rb_H)}
theorem pr_B (hX : rp_X X 40) : rp_B X (fun s => fM_product_6b rec (nI d) s.1 s.2) (rec 3 (nI d)) 42 47 := by
  refine ⟨fun h a q x w hM hw => ?_, fun h a q x hM hq hn => ?_, fun h a q x y h' hM hq hy hF => ?_⟩
  · unfold fM_product_6b
    dsimp only
    rw [rp_ill hM hw, if_neg (by decide)]
  · unfold fM_product_6b
    dsimp only
    rw [rp_fine hM, if_pos rfl, rp_here hM hX (by omega), Option.bind_some, if_neg (fun z => hn (Or.inl z)), Option.bind_some, if_neg (fun z => hn (Or.inr z))]
  · have e : ∀ v90, fM_product_45l6 rec (nI d) x v90 h = if v90 = 0 then some (.inl ((if y = 0 then 0 else x / y), h')) else some (.inl (x * y, h')) := fun v90 => by
      unfold fM_product_45l6 fM_product_87l6
      rw [hM.2.2.2.2.2.1, nI_1, hF, Option.bind_some]
      by_cases z : v90 = 0
      · rw [if_pos z, if_pos z]
        by_cases u : y = 0
        · rw [if_pos u, if_pos u]
        · rw [if_neg u, if_neg u, if_neg u]
      · rw [if_neg z, if_neg z]
    unfold fM_product_6b fM_product_31l6
    dsimp only
    rw [rp_fine hM, if_pos rfl, rp_here hM hX (by omega), Option.bind_some, Option.bind_some, Option.bind_some, e, e]
    rcases hy with z | z
    · rw [z, if_pos rfl, if_pos rfl, if_neg (by decide)]
      rfl
    · rw [z, if_neg (by decide), if_pos rfl, if_neg (by decide), if_pos rfl]
      rfl
theorem su_B (hX : rp_X X 40) : rp_B X (fun s => fM_sum_6b rec (nI d) s.1 s.2) (rec 1 (nI d)) 43 45 := by
  refine ⟨fun h a q x w hM hw => ?_, fun h a q x hM hq hn => ?_, fun h a q x y h' hM hq hy hF => ?_⟩
  · unfold fM_sum_6b
    dsimp only
    rw [rp_ill hM hw, if_neg (by decide)]
  · unfold fM_sum_6b
    dsimp only
    rw [rp_fine hM, if_pos rfl, rp_here hM hX (by omega), Option.bind_some, if_neg (fun z => hn (Or.inl z)), Option.bind_some, if_neg (fun z => hn (Or.inr z))]
  · have e : ∀ v90, fM_sum_45l6 rec (nI d) x v90 h = if v90 = 0 then some (.inl (x - y, h')) else some (.inl (x + y, h')) := fun v90 => by
      unfold fM_sum_45l6 fM_sum_78l6
      rw [hM.2.2.2.2.2.1, nI_1, hF, Option.bind_some]
    unfold fM_sum_6b fM_sum_31l6
    dsimp only
    rw [rp_fine hM, if_pos rfl, rp_here hM hX (by omega), Option.bind_some, Option.bind_some, Option.bind_some, e, e]
    rcases hy with z | z
    · rw [z, if_pos rfl, if_pos rfl, if_neg (by decide)]
      rfl
    · rw [z, if_neg (by decide), if_pos rfl, if_neg (by decide), if_pos rfl]
      rfl
/-- what stands behind the first sum of a comparison -/
theorem held_no (hX : rp_X X 40) {q : Nat} (hq : q ≤ 40) {h h1 : rb_H} {a : Nat} {x : Int32} (hM : rp_M h1 a X 40 q (-1)) (hF : rec 2 (nI d) h = some (x, h1)) (hn : ¬ (hereN X 40 q = 60 ∨ hereN X 40 q = 62 ∨ hereN X 40 q = 61)) : fM_held rec (nI d) h = some (x, h1) := by
  have e := fun c => rp_pass hM hX (show q ≤ 100 by omega) c
  unfold fM_held fM_held_0
  rw [hF, Option.bind_some, e, if_neg (fun z => hn (Or.inl z)), Option.bind_some]
  dsimp only
  rw [if_neg (by decide), e, if_neg (fun z => hn (Or.inr (Or.inl z))), Option.bind_some]
  dsimp only
  rw [if_neg (by decide), e, if_neg (fun z => hn (Or.inr (Or.inr z))), Option.bind_some]
  dsimp only
  rw [if_neg (by decide)]
theorem held_ill {q : Nat} {w : Int32} {h h1 : rb_H} {a : Nat} {x : Int32} (hM : rp_M h1 a X 40 q w) (hw : w ≠ -1) (hF : rec 2 (nI d) h = some (x, h1)) : fM_held rec (nI d) h = some (x, h1) := by
  have e := fun c => rp_pass2 hM hw c
  unfold fM_held fM_held_0
  rw [hF, Option.bind_some, e, Option.bind_some]
  dsimp only
  rw [if_neg (by decide), e, Option.bind_some]
  dsimp only
  rw [if_neg (by decide), e, Option.bind_some]
  dsimp only
  rw [if_neg (by decide)]
theorem held_yes (hX : rp_X X 40) {q : Nat} (hq : q ≤ 40) {h h1 h2 : rb_H} {a : Nat} {x y : Int32} (hM : rp_M h1 a X 40 q (-1)) (hF : rec 2 (nI d) h = some (x, h1)) (hy : hereN X 40 q = 60 ∨ hereN X 40 q = 62 ∨ hereN X 40 q = 61) (hF2 : rec 2 (nI d) (rb_sF h1 49 11 (nI (q + 1))) = some (y, h2)) : fM_held rec (nI d) h = some (xB (hereN X 40 q) x y, h2) := by
  have e := fun c => rp_pass hM hX (show q ≤ 100 by omega) c
  unfold fM_held fM_held_0
  rw [hF, Option.bind_some, e]
  rcases hy with z | z | z
  · rw [z, if_pos rfl, Option.bind_some]
    dsimp only
    rw [if_pos rfl, hF2, Option.bind_some]
    show (if y ≤ x then some (0, h2) else some (1, h2)) = some (if y ≤ x then 0 else 1, h2)
    split <;> rfl
  · rw [z, if_neg (by decide), Option.bind_some]
    dsimp only
    rw [if_neg (by decide), e, z, if_pos rfl, Option.bind_some]
    dsimp only
    rw [if_pos rfl, hF2, Option.bind_some]
    show (if x ≤ y then some (0, h2) else some (1, h2)) = some (if x ≤ y then 0 else 1, h2)
    split <;> rfl
  · rw [z, if_neg (by decide), Option.bind_some]
    dsimp only
    rw [if_neg (by decide), e, z, if_neg (by decide), Option.bind_some]
    dsimp only
    rw [if_neg (by decide), e, z, if_pos rfl, Option.bind_some]
    dsimp only
    rw [if_pos rfl, hF2, Option.bind_some]
    show (if x = y then some (1, h2) else some (0, h2)) = some (if x = y then 1 else 0, h2)
    split <;> rfl
theorem rp_heldD (hX : rp_X X 40) (hp : p ≤ min X.length 40) (H : ∀ q, p ≤ q → q ≤ min X.length 40 → ∀ o w g c, topL w 2 → rp_D X (rec 2 (nI d)) 2 q o w d g c) : ∀ o w g c, topL w 1 → c d = false → rp_D X (fM_held rec (nI d)) 1 p o w d g c := by
  intro o w g c ht hc
  have lt12 : (1 : Int32) < 2 := by decide
  rcases H p (Nat.le_refl _) hp o w g c (fun a ha => Int32.lt_trans (ht a ha) lt12) with ⟨q, o', W, g', c', C, v, ⟨e1, e2, e3, e4, e5, e6, e7, e8, e9⟩, eO⟩ | ⟨q, e0, e1, e2, eO⟩
  · have e4' : ∀ a, a ∈ W → ¬ fU_rankOf a < 1 := fun a ha y => e4 a ha (Int32.lt_trans y lt12)
    by_cases z : hereN X 40 q = 60 ∨ hereN X 40 q = 62 ∨ hereN X 40 q = 61
    · have cq : q < min X.length 40 := by
        by_cases y : q < min X.length 40
        · exact y
        · rw [hereN_n y] at z
          exact absurd z (by decide)
      have hh := hereN_y cq
      have zz := z
      rw [hh] at zz
      have z7 : nI (X.getD q 0) = 42 ∨ nI (X.getD q 0) = 47 ∨ nI (X.getD q 0) = 43 ∨ nI (X.getD q 0) = 45 ∨ nI (X.getD q 0) = 60 ∨ nI (X.getD q 0) = 62 ∨ nI (X.getD q 0) = 61 := by
        rcases zz with zz | zz | zz <;> rw [zz] <;> decide
      have zr : fU_rankOf (nI (X.getD q 0)) = 1 := by
        rcases zz with zz | zz | zz <;> rw [zz] <;> decide +kernel
      have nd : fB_isDigit (nI (X.getD q 0)) = false := by
        rcases zz with zz | zz | zz <;> rw [zz] <;> decide +kernel
      have n41 : nI (X.getD q 0) ≠ 41 := by
        rcases zz with zz | zz | zz <;> rw [zz] <;> decide
      have cd : c' d = false := (e8 d (Or.inr ⟨by decide, rfl⟩)).trans hc
      have st : mTake (o', W ++ w, d, g', false, c') (nI (X.getD q 0)) = some (C ++ o, nI (X.getD q 0) :: w, d, 0, true, fun i => if i = d then true else c' i) := by
        unfold mTake
        dsimp only
        rw [dig_no nd, if_neg (by decide), if_neg n41, zr, if_neg (by decide), if_pos rfl, cd, if_neg (by decide), mRel_all 1 W o' w e4' ht, e5]
      have tt : topL (nI (X.getD q 0) :: w) 2 := fun a ha => by
        cases ha
        rw [zr]
        exact lt12
      rcases H (q + 1) (by omega) (by omega) (C ++ o) (nI (X.getD q 0) :: w) 0 (fun i => if i = d then true else c' i) tt with ⟨q1, o1, W1, g1, c1, C1, v1, ⟨f1, f2, f3, f4, f5, f6, f7, f8, f9⟩, fO⟩ | ⟨q1, f0, f1, f2, fO⟩
      · refine Or.inl ⟨q1, o1, W1 ++ [nI (X.getD q 0)], g1, c1, (1000 + nI (X.getD q 0)) :: (C1 ++ C), fun th => xB (nI (X.getD q 0)) (v th) (v1 th), ⟨by omega, f2, ?_, fun a ha => ?_, ?_, cmpt_bin e6 f6 (signs_ok _ z7), by simp, fun i hi => ?_, f9.1, fun _ => f9.2.1 (by omega), fun _ => f9.2.2.1 (by omega), fun _ _ => (f8 d (Or.inr ⟨by decide, rfl⟩)).trans (if_pos rfl)⟩, fun h a hM => ?_⟩
        · rw [e3, mG_step cq st, f3, List.append_assoc]
          rfl
        · rcases List.mem_append.mp ha with y | y
          · exact fun y2 => f4 a y (Int32.lt_trans y2 lt12)
          · rw [List.mem_singleton.mp y, zr]
            exact Int32.lt_irrefl
        · rw [mAll_app, f5]
          simp [mAll]
        · have hi : i < d := by omega
          exact ((f8 i (Or.inl hi)).trans (if_neg (by omega))).trans (e8 i (Or.inl hi))
        · obtain ⟨x, h1, r1, r2, r3, r4⟩ := eO h a hM
          have A : Ag [1011, 1012] h1 (rb_sF h1 49 11 (nI (q + 1))) := Ag_sF (by decide) (Ag_refl _ _)
          obtain ⟨y, h2, t1, t2, t3, t4⟩ := fO _ a (rp_M_at r2 (q + 1))
          refine ⟨_, h2, held_yes hX (by omega) r2 r1 z t1, t2, Ag_trans r3 (Ag_trans A t3), fun _ => ?_⟩
          rw [r4 rfl, t4 rfl, thM_ag A (by decide), thM_ag r3 (by decide), hh]
      · refine Or.inr ⟨q1, by omega, f1, rp_F_eq (e3.trans (mG_step cq st)) f2, fun h a hM => ?_⟩
        obtain ⟨x, h1, r1, r2, r3, r4⟩ := eO h a hM
        have A : Ag [1011, 1012] h1 (rb_sF h1 49 11 (nI (q + 1))) := Ag_sF (by decide) (Ag_refl _ _)
        obtain ⟨y, h2, t1, t2, t3, t4⟩ := fO _ a (rp_M_at r2 (q + 1))
        exact ⟨_, h2, held_yes hX (by omega) r2 r1 z t1, t2, Ag_trans r3 (Ag_trans A t3), fun u => absurd u.symm (m1_nI (by omega))⟩
    · refine Or.inl ⟨q, o', W, g', c', C, v, ⟨e1, e2, e3, e4', e5, e6, e7, fun i hi => e8 i (Or.inl (by omega)), e9.1, fun _ => e9.2.1 (by omega), fun _ => e9.2.2.1 (by omega), fun _ u => absurd u z⟩, fun h a hM => ?_⟩
      obtain ⟨x, h1, r1, r2, r3, r4⟩ := eO h a hM
      exact ⟨x, h1, held_no hX (by omega) r2 r1 z, r2, r3, r4⟩
  · refine Or.inr ⟨q, e0, e1, e2, fun h a hM => ?_⟩
    obtain ⟨x, h1, r1, r2, r3, r4⟩ := eO h a hM
    exact ⟨x, h1, held_ill r2 (fun y => m1_nI (show q < 2 ^ 31 by omega) y.symm) r1, r2, r3, r4⟩
end
section
variable {X : List Nat}
theorem fR_0 (n : Nat) (v : Int32) : fR_held_product_sum_thing (n + 1) 0 v = fM_held (fR_held_product_sum_thing n) v := rfl
theorem fR_1 (n : Nat) (v : Int32) : fR_held_product_sum_thing (n + 1) 1 v = fM_product (fR_held_product_sum_thing n) v := rfl
theorem fR_2 (n : Nat) (v : Int32) : fR_held_product_sum_thing (n + 1) 2 v = fM_sum (fR_held_product_sum_thing n) v := rfl
theorem fR_3 (n : Nat) (v : Int32) : fR_held_product_sum_thing (n + 1) 3 v = fM_thing (fR_held_product_sum_thing n) v := rfl
theorem rp_desc (hX : rp_X X 40) : ∀ n p d, p ≤ min X.length 40 → d ≤ 4 →
    (4 * (4 - d) + (min X.length 40 - p) + 1 ≤ n → ∀ o w g c, rp_D X (fR_held_product_sum_thing n 3 (nI d)) 4 p o w d g c) ∧
    (4 * (4 - d) + (min X.length 40 - p) + 2 ≤ n → ∀ o w g c, topL w 3 → rp_D X (fR_held_product_sum_thing n 1 (nI d)) 3 p o w d g c) ∧
    (4 * (4 - d) + (min X.length 40 - p) + 3 ≤ n → ∀ o w g c, topL w 2 → rp_D X (fR_held_product_sum_thing n 2 (nI d)) 2 p o w d g c) ∧
    (4 * (4 - d) + (min X.length 40 - p) + 4 ≤ n → ∀ o w g c, topL w 1 → c d = false → rp_D X (fR_held_product_sum_thing n 0 (nI d)) 1 p o w d g c)
  | 0, p, d, _, _ => ⟨fun h => absurd h (by omega), fun h => absurd h (by omega), fun h => absurd h (by omega), fun h => absurd h (by omega)⟩
  | n + 1, p, d, hp, hd => by
    refine ⟨fun h => ?_, fun h => ?_, fun h => ?_, fun h => ?_⟩
    · rw [fR_3]
      exact rp_thingD hX hp hd (fun c0 => (rp_desc hX n (p + 1) d (by omega) hd).1 (by omega)) (fun c0 d4 => (rp_desc hX n (p + 1) (d + 1) (by omega) (by omega)).2.2.2 (by omega))
    · rw [fR_1]
      intro o w g c ht
      exact rp_partD hX (Or.inr rfl) (pr_B hX) (Or.inl ⟨rfl, rfl, rfl⟩) p hp o w g c ht (fun q h1 h2 o w g c _ => (rp_desc hX n q d h2 hd).1 (by omega) o w g c) (fun h => rfl)
    · rw [fR_2]
      intro o w g c ht
      exact rp_partD hX (Or.inl rfl) (su_B hX) (Or.inr ⟨rfl, rfl, rfl⟩) p hp o w g c ht (fun q h1 h2 o w g c ht => (rp_desc hX n q d h2 hd).2.1 (by omega) o w g c ht) (fun h => rfl)
    · rw [fR_0]
      exact rp_heldD hX hp (fun q h1 h2 => (rp_desc hX n q d h2 hd).2.2.1 (by omega))
end
