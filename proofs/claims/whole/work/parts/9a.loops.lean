/-! sums and products: a loop over what is bound -/
/-- a round of such a loop: B the body, F what it calls, two signs -/
def rp_B (X : List Nat) (B : Int32 × rb_H → Option ((Int32 × rb_H) ⊕ (Int32 × rb_H))) (F : rb_H → Option (Int32 × rb_H)) (s1 s2 : Int32) : Prop := (∀ h a q x w, rp_M h a X 40 q w → w ≠ -1 → B (x, h) = some (.inr (x, h))) ∧ (∀ h a q x, rp_M h a X 40 q (-1) → q ≤ 40 → ¬ (hereN X 40 q = s1 ∨ hereN X 40 q = s2) → B (x, h) = some (.inr (x, h))) ∧ ∀ h a q x y h', rp_M h a X 40 q (-1) → q ≤ 40 → (hereN X 40 q = s1 ∨ hereN X 40 q = s2) → F (rb_sF h 49 11 (nI (q + 1))) = some (y, h') → B (x, h) = some (.inl (xB (hereN X 40 q) x y, h'))
/-- what such a loop leaves -/
def rp_L (X : List Nat) (B : Int32 × rb_H → Option ((Int32 × rb_H) ⊕ (Int32 × rb_H))) (q q2 : Nat) (w : Int32) (v v2 : (Nat → Int32) → Int32) : Prop := ∀ h a m, rp_M h a X 40 q (-1) → min X.length 40 - q < m → ∃ x h', rb_iter m B (v (thM h), h) = some (x, h') ∧ rp_M h' a X 40 q2 w ∧ Ag [1011, 1012] h h' ∧ (w = -1 → x = v2 (thM h))
theorem signs_ok : ∀ x : Int32, (x = 42 ∨ x = 47 ∨ x = 43 ∨ x = 45 ∨ x = 60 ∨ x = 62 ∨ x = 61) → okB x := by
  intro x hx
  unfold okB
  rcases hx with rfl | rfl | rfl | rfl | rfl | rfl | rfl <;> decide
section
variable {X : List Nat} {d : Nat} {B : Int32 × rb_H → Option ((Int32 × rb_H) ⊕ (Int32 × rb_H))} {F : rb_H → Option (Int32 × rb_H)} {s1 s2 : Int32} {l : Nat}
/-- from a state behind a part on -/
theorem rp_loopD (hX : rp_X X 40) (hl : l = 2 ∨ l = 3) (hB : rp_B X B F s1 s2) (hs : (l = 3 ∧ s1 = 42 ∧ s2 = 47) ∨ (l = 2 ∧ s1 = 43 ∧ s2 = 45))
    (p : Nat) (o w : List Int32) (g : Nat) (c : Nat → Bool) (ht : topL w (nI l))
    (H : ∀ q, p ≤ q → q ≤ min X.length 40 → ∀ o w g c, topL w (nI (l + 1)) → rp_D X F (l + 1) q o w d g c) :
    ∀ (k q : Nat) (o' W : List Int32) (g' : Nat) (c' : Nat → Bool) (C : List Int32) (v : (Nat → Int32) → Int32), min X.length 40 - q ≤ k → p < q → q ≤ min X.length 40 → mG X p (o, w, d, g, true, c) = mG X q (o', W ++ w, d, g', false, c') → (∀ a, a ∈ W → ¬ fU_rankOf a < nI l) → mAll W o' = C ++ o → cmpt C v → C ≠ [] → (∀ i, i ≤ d → c' i = c i) → rp_S X (l + 1) q g' (c' d) →
    (∃ q2 o2 W2 g2 c2 C2 v2, rp_E X l p o w d g c q2 o2 W2 g2 c2 C2 v2 ∧ rp_L X B q q2 (-1) v v2) ∨ ∃ q2, q ≤ q2 ∧ q2 ≤ min X.length 40 ∧ rp_F X p (o, w, d, g, true, c) q2 ∧ rp_L X B q q2 (nI q2) v (fun _ => 0)
  | k, q, o', W, g', c', C, v, hk, hpq, hq, e3, e4, e5, e6, e7, e8, e9 => by
    by_cases z : hereN X 40 q = s1 ∨ hereN X 40 q = s2
    · have cq : q < min X.length 40 := by
        by_cases y : q < min X.length 40
        · exact y
        · rw [hereN_n y] at z
          rcases hs with ⟨-, rfl, rfl⟩ | ⟨-, rfl, rfl⟩ <;> exact absurd z (by decide)
      obtain ⟨k, rfl⟩ : ∃ j, k = j + 1 := ⟨k - 1, by omega⟩
      have hh := hereN_y cq
      have zz := z
      rw [hh] at zz
      have z7 : nI (X.getD q 0) = 42 ∨ nI (X.getD q 0) = 47 ∨ nI (X.getD q 0) = 43 ∨ nI (X.getD q 0) = 45 ∨ nI (X.getD q 0) = 60 ∨ nI (X.getD q 0) = 62 ∨ nI (X.getD q 0) = 61 := by
        rcases hs with ⟨-, rfl, rfl⟩ | ⟨-, rfl, rfl⟩ <;> rcases zz with zz | zz <;> rw [zz] <;> decide
      have zr : fU_rankOf (nI (X.getD q 0)) = nI l := by
        rcases hs with ⟨rfl, rfl, rfl⟩ | ⟨rfl, rfl, rfl⟩ <;> rcases zz with zz | zz <;> rw [zz] <;> decide +kernel
      have st : mTake (o', W ++ w, d, g', false, c') (nI (X.getD q 0)) = some (C ++ o, nI (X.getD q 0) :: w, d, 0, true, c') := by
        have nd : fB_isDigit (nI (X.getD q 0)) = false := by
          rcases hs with ⟨-, rfl, rfl⟩ | ⟨-, rfl, rfl⟩ <;> rcases zz with zz | zz <;> rw [zz] <;> decide +kernel
        have n41 : nI (X.getD q 0) ≠ 41 := by
          rcases hs with ⟨-, rfl, rfl⟩ | ⟨-, rfl, rfl⟩ <;> rcases zz with zz | zz <;> rw [zz] <;> decide
        have r1 : ¬ nI l < 1 := by rcases hl with rfl | rfl <;> decide
        have r2 : ¬ nI l = 1 := by rcases hl with rfl | rfl <;> decide
        unfold mTake
        dsimp only
        rw [dig_no nd, if_neg (by decide), if_neg n41, zr, if_neg r1, if_neg r2, mRel_all (nI l) W o' w e4 ht, e5]
      have tt : topL (nI (X.getD q 0) :: w) (nI (l + 1)) := fun a ha => by
        cases ha
        rw [zr]
        exact nI_lt (by omega) (by omega)
      rcases H (q + 1) (by omega) (by omega) (C ++ o) (nI (X.getD q 0) :: w) 0 c' tt with ⟨q1, o1, W1, g1, c1, C1, v1, ⟨f1, f2, f3, f4, f5, f6, f7, f8, f9⟩, fO⟩ | ⟨q1, f0, f1, f2, fO⟩
      · have ih := rp_loopD hX hl hB hs p o w g c ht H k q1 o1 (W1 ++ [nI (X.getD q 0)]) g1 c1 ((1000 + nI (X.getD q 0)) :: (C1 ++ C)) (fun th => xB (nI (X.getD q 0)) (v th) (v1 th)) (by omega) (by omega) f2 (by rw [e3, mG_step cq st, f3, List.append_assoc]; rfl) (fun a ha => by
            rcases List.mem_append.mp ha with y | y
            · intro y2
              exact f4 a y (Int32.lt_trans y2 (nI_lt (by omega) (by omega)))
            · rw [List.mem_singleton.mp y, zr]
              exact Int32.lt_irrefl) (by rw [mAll_app, f5]; simp [mAll]) (cmpt_bin e6 f6 (signs_ok _ z7)) (by simp) (fun i hi => by rw [f8 i (by omega)]; exact e8 i hi) f9
        have one : ∀ h a m, rp_M h a X 40 q (-1) → min X.length 40 - q < m → ∃ h', rb_iter m B (v (thM h), h) = rb_iter (m - 1) B (xB (nI (X.getD q 0)) (v (thM h')) (v1 (thM h')), h') ∧ rp_M h' a X 40 q1 (-1) ∧ Ag [1011, 1012] h h' := fun h a m hM hm => by
          obtain ⟨m, rfl⟩ : ∃ j, m = j + 1 := ⟨m - 1, by omega⟩
          obtain ⟨y, h', r1, r2, r3, r4⟩ := fO _ a (rp_M_at hM (q + 1))
          have A : Ag [1011, 1012] h (rb_sF h 49 11 (nI (q + 1))) := Ag_sF (by decide) (Ag_refl _ _)
          refine ⟨h', ?_, r2, Ag_trans A r3⟩
          have e := hB.2.2 h a q (v (thM h)) y h' hM (by omega) z r1
          rw [hh, r4 rfl, thM_ag A (by decide)] at e
          rw [rb_iter_inl e, thM_ag (Ag_trans A r3) (by decide)]
          rfl
        rcases ih with ⟨q2, o2, W2, g2, c2, C2, v2, E, L⟩ | ⟨q2, y0, y1, y2, L⟩
        · refine Or.inl ⟨q2, o2, W2, g2, c2, C2, v2, E, fun h a m hM hm => ?_⟩
          obtain ⟨h1, s1, s2, s3⟩ := one h a m hM hm
          obtain ⟨x, h', t1, t2, t3, t4⟩ := L h1 a (m - 1) s2 (by omega)
          exact ⟨x, h', s1.trans t1, t2, Ag_trans s3 t3, fun y => by rw [t4 y, thM_ag s3 (by decide)]⟩
        · refine Or.inr ⟨q2, by omega, y1, y2, fun h a m hM hm => ?_⟩
          obtain ⟨h1, s1, s2, s3⟩ := one h a m hM hm
          obtain ⟨x, h', t1, t2, t3, t4⟩ := L h1 a (m - 1) s2 (by omega)
          exact ⟨x, h', s1.trans t1, t2, Ag_trans s3 t3, t4⟩
      · refine Or.inr ⟨q1, by omega, f1, rp_F_eq (e3.trans (mG_step cq st)) f2, fun h a m hM hm => ?_⟩
        obtain ⟨m, rfl⟩ : ∃ j, m = j + 2 := ⟨m - 2, by omega⟩
        obtain ⟨y, h', r1, r2, r3, r4⟩ := fO _ a (rp_M_at hM (q + 1))
        have A : Ag [1011, 1012] h (rb_sF h 49 11 (nI (q + 1))) := Ag_sF (by decide) (Ag_refl _ _)
        have bad : nI q1 ≠ -1 := fun y => m1_nI (show q1 < 2 ^ 31 by omega) y.symm
        refine ⟨xB (hereN X 40 q) (v (thM h)) y, h', ?_, r2, Ag_trans A r3, fun y => absurd y bad⟩
        rw [rb_iter_inl (hB.2.2 h a q (v (thM h)) y h' hM (by omega) z r1)]
        exact rb_iter_inr (hB.1 h' a q1 _ _ r2 bad)
    · refine Or.inl ⟨q, o', W, g', c', C, v, ⟨hpq, hq, e3, e4, e5, e6, e7, fun i hi => e8 i (by omega), e9.1, fun y => ?_, fun y => ?_, fun y => absurd y (by omega)⟩, fun h a m hM hm => ?_⟩
      · rcases hs with ⟨rfl, rfl, rfl⟩ | ⟨rfl, rfl, rfl⟩
        · exact ⟨fun u => z (Or.inl u), fun u => z (Or.inr u)⟩
        · exact e9.2.1 (by omega)
      · rcases hs with ⟨rfl, rfl, rfl⟩ | ⟨rfl, rfl, rfl⟩
        · exact absurd y (by omega)
        · exact ⟨fun u => z (Or.inl u), fun u => z (Or.inr u)⟩
      · obtain ⟨m, rfl⟩ : ∃ j, m = j + 1 := ⟨m - 1, by omega⟩
        exact ⟨v (thM h), h, rb_iter_inr (hB.2.1 h a q _ hM (by omega) z), hM, Ag_refl _ _, fun _ => rfl⟩
/-- the whole: a part, and the loop behind it -/
theorem rp_partD (hX : rp_X X 40) (hl : l = 2 ∨ l = 3) (hB : rp_B X B F s1 s2) (hs : (l = 3 ∧ s1 = 42 ∧ s2 = 47) ∨ (l = 2 ∧ s1 = 43 ∧ s2 = 45))
    (p : Nat) (hp : p ≤ min X.length 40) (o w : List Int32) (g : Nat) (c : Nat → Bool) (ht : topL w (nI l))
    (H : ∀ q, p ≤ q → q ≤ min X.length 40 → ∀ o w g c, topL w (nI (l + 1)) → rp_D X F (l + 1) q o w d g c) {G : rb_H → Option (Int32 × rb_H)} (hG : ∀ h, G h = (F h).bind fun u1 => (rb_iter rb_fuel B (u1.1, u1.2)).bind fun x14 => some (x14.1, x14.2)) : rp_D X G l p o w d g c := by
  have ht1 : topL w (nI (l + 1)) := fun a ha => Int32.lt_trans (ht a ha) (nI_lt (by omega) (by omega))
  rcases H p (Nat.le_refl _) hp o w g c ht1 with ⟨q, o', W, g', c', C, v, ⟨e1, e2, e3, e4, e5, e6, e7, e8, e9⟩, eO⟩ | ⟨q, e0, e1, e2, eO⟩
  · rcases rp_loopD hX hl hB hs p o w g c ht H (min X.length 40 - q) q o' W g' c' C v (Nat.le_refl _) e1 e2 e3 (fun a ha y => e4 a ha (Int32.lt_trans y (nI_lt (by omega) (by omega)))) e5 e6 e7 (fun i hi => e8 i (by omega)) e9 with ⟨q2, o2, W2, g2, c2, C2, v2, E, L⟩ | ⟨q2, y0, y1, y2, L⟩
    · refine Or.inl ⟨q2, o2, W2, g2, c2, C2, v2, E, fun h a hM => ?_⟩
      obtain ⟨x, h1, r1, r2, r3, r4⟩ := eO h a hM
      obtain ⟨y, h2, t1, t2, t3, t4⟩ := L h1 a rb_fuel r2 (by rw [rb_fuel_eq]; omega)
      refine ⟨y, h2, ?_, t2, Ag_trans r3 t3, fun u => by rw [t4 u, thM_ag r3 (by decide)]⟩
      rw [hG, r1, Option.bind_some, r4 rfl, ← thM_ag r3 (by decide), t1]
      rfl
    · refine Or.inr ⟨q2, by omega, y1, y2, fun h a hM => ?_⟩
      obtain ⟨x, h1, r1, r2, r3, r4⟩ := eO h a hM
      obtain ⟨y, h2, t1, t2, t3, t4⟩ := L h1 a rb_fuel r2 (by rw [rb_fuel_eq]; omega)
      refine ⟨y, h2, ?_, t2, Ag_trans r3 t3, t4⟩
      rw [hG, r1, Option.bind_some, r4 rfl, ← thM_ag r3 (by decide), t1]
      rfl
  · refine Or.inr ⟨q, e0, e1, e2, fun h a hM => ?_⟩
    obtain ⟨x, h1, r1, r2, r3, r4⟩ := eO h a hM
    have bad : nI q ≠ -1 := fun y => m1_nI (show q < 2 ^ 31 by omega) y.symm
    refine ⟨x, h1, ?_, r2, r3, r4⟩
    rw [hG, r1, Option.bind_some, show rb_iter rb_fuel B (x, h1) = some (x, h1) from ?_]
    · rfl
    · rw [rb_fuel_eq]
      exact rb_iter_inr (hB.1 h1 a q x _ r2 bad)
end
