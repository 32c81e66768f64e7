/-! acts: the model's reading of one -/
section
variable {X : List Nat} {p n : Nat}
def rdA (h h' : rb_H) (X : List Nat) (n q : Nat) (w : Int32) : Prop := rp_M h' 52 X 60 q w ∧ Ag [62, 1011, 1012] h h' ∧ ∀ j, j < 4 * n → rb_hI h' 62 j = rb_hI h 62 j
theorem rdA_ag {h h' h'' : rb_H} {q q' : Nat} {w w' : Int32} (hr : rdA h h' X n q w) (hM : rp_M h'' 52 X 60 q' w') (hA : Ag [1011, 1012] h' h'') : rdA h h'' X n q' w' := ⟨hM, Ag_trans hr.2.1 (AgS (by decide) hA), fun j hj => (AgI hA (by decide) j).trans (hr.2.2 j hj)⟩
theorem rdA_set {h h' : rb_H} {q : Nat} {w : Int32} (hr : rdA h h' X n q w) {i : Nat} (hi : 4 * n ≤ i) (v : Int32) : rdA h (rb_sI h' 62 i v) X n q w := ⟨rp_M_ag hr.1 (L := [62]) (Ag_sI (by decide) (Ag_refl _ _)) (by decide), Ag_sI (by decide) hr.2.1, fun j hj => by
  rw [hI_sI, if_neg (by omega)]
  exact hr.2.2 j hj⟩
theorem nmq {q : Nat} (h : q ≤ 1000) : nI q ≠ -1 := fun z => m1_nI (show q < 2 ^ 31 by omega) z.symm
theorem rdA_44 {h : rb_H} (hM : rp_M h 52 X 60 p (-1)) {c : Nat} : rdA h (rb_sI (rb_sF h 49 11 (nI (p + 1))) 62 (4 * n) (nI c)) X n (p + 1) (-1) := ⟨rp_M_ag (rp_M_at hM (p + 1)) (L := [62]) (Ag_sI (by decide) (Ag_refl _ _)) (by decide), Ag_sI (by decide) (Ag_sF (by decide) (Ag_refl _ _)), fun j hj => by
  rw [hI_sI, if_neg (by omega)]
  rfl⟩
/-- the model's row at places -/
theorem e62 {h : rb_H} {i j : Nat} {v : Int32} : rb_hI (rb_sI h 62 i v) 62 j = if j = i then v else rb_hI h 62 j := by
  rw [hI_sI]
  by_cases z : j = i
  · rw [if_pos ⟨rfl, z⟩, if_pos z]
  · rw [if_neg (fun y => z y.2), if_neg z]
theorem M_act1 {h : rb_H} (hM : rp_M h 52 X 60 p (-1)) (hX : rp_X X 60) (hp : p < min X.length 60) (hn : n ≤ 60) (hc : actN (X.getD p 0) ≠ 5) :
    (∀ i, i < (shp (X.getD p 0)).length → (∀ j, j < i → okS X p (X.getD p 0) j) → ¬ okS X p (X.getD p 0) i → ∃ h', fM_readAct (nI (4 * n)) h = some h' ∧ rdA h h' X n (p + 1 + i) (nI (p + 1 + i))) ∧
    ((∀ j, j < (shp (X.getD p 0)).length → okS X p (X.getD p 0) j) → ∃ h', fM_readAct (nI (4 * n)) h = some h' ∧ rdA h h' X n (p + 1 + (shp (X.getD p 0)).length) (-1) ∧ actE h' n (actT X p)) := by
  have o4 : ∀ i, i < 4 → ¬ rb_oob (nI (4 * n) + nI i) 320 := fun i hi => by rw [nI_add]; exact oob_n (by omega) (by omega)
  have o0 : ¬ rb_oob (nI (4 * n)) 320 := oob_n (by omega) (by omega)
  have c0 : (nI (4 * n)).toNatClampNeg = 4 * n := cl_n (by omega)
  have c1 : (nI (4 * n) + 1).toNatClampNeg = 4 * n + 1 := by rw [show nI (4 * n) + 1 = nI (4 * n + 1) from nI_add _ 1]; exact cl_n (by omega)
  have c2 : (nI (4 * n) + 2).toNatClampNeg = 4 * n + 2 := by rw [show nI (4 * n) + 2 = nI (4 * n + 2) from nI_add _ 2]; exact cl_n (by omega)
  have c3 : (nI (4 * n) + 3).toNatClampNeg = 4 * n + 3 := by rw [show nI (4 * n) + 3 = nI (4 * n + 3) from nI_add _ 3]; exact cl_n (by omega)
  have o1 : ¬ rb_oob (nI (4 * n) + 1) 320 := o4 1 (by omega)
  have o2 : ¬ rb_oob (nI (4 * n) + 2) 320 := o4 2 (by omega)
  have o3 : ¬ rb_oob (nI (4 * n) + 3) 320 := o4 3 (by omega)
  have hh := hereN_y hp
  have H0 := rdA_44 (n := n) hM (c := X.getD p 0)
  have ci := sg_lt hX.2.1 p
  -- the head
  have head : fM_readAct (nI (4 * n)) h = fM_readAct_44 (nI (4 * n)) (nI (X.getD p 0)) h := by
    unfold fM_readAct fM_readAct_0
    rw [rp_here hM hX (by omega), Option.bind_some, hh]
    rcases actN_5.mp hc with z | z | z | z | z
    · rw [z]
      exact if_pos (by decide)
    · rw [z, if_neg (by decide)]
      exact if_pos (by decide)
    · rw [z, if_neg (by decide), if_neg (by decide)]
      exact if_pos (by decide)
    · rw [z, if_neg (by decide), if_neg (by decide), if_neg (by decide)]
      exact if_pos (by decide)
    · rw [z, if_neg (by decide), if_neg (by decide), if_neg (by decide), if_neg (by decide)]
      exact if_pos (by decide)
  have body : fM_readAct_44 (nI (4 * n)) (nI (X.getD p 0)) h = if nI (X.getD p 0) = 47 then some (rb_sI (rb_sF h 49 11 (nI (p + 1))) 62 (4 * n) (nI (X.getD p 0))) else (fM_oneOf 48 10 (rb_sI (rb_sF h 49 11 (nI (p + 1))) 62 (4 * n) (nI (X.getD p 0)))).bind fun u4 => if nI (X.getD p 0) = 109 then (fM_squareOf (rb_sI u4.2 62 (4 * n + 1) u4.1)).bind fun u15 => fM_readAct_102 (nI (4 * n)) (nI (X.getD p 0)) (rb_sI u15.2 62 (4 * n + 2) u15.1) else fM_readAct_102 (nI (4 * n)) (nI (X.getD p 0)) (rb_sI u4.2 62 (4 * n + 1) u4.1) := by
    unfold fM_readAct_44
    rw [if_neg o0, c0, hM.2.2.2.2.2.1, nI_1]
    simp only [if_neg o1, if_neg o2, c1, c2]
  rw [head, body]
  generalize hH : rb_sI (rb_sF h 49 11 (nI (p + 1))) 62 (4 * n) (nI (X.getD p 0)) = H at H0 ⊢
  have E0 : rb_hI H 62 (4 * n) = nI (X.getD p 0) := by rw [← hH, e62, if_pos rfl]
  have dig : ∀ {g : rb_H} {q : Nat}, rdA h g X n q (-1) → q ≤ 90 → (q < min X.length 60 ∧ sgIn X q 48 10 → ∃ h', fM_oneOf 48 10 g = some (nI (X.getD q 0 - 48), h') ∧ rdA h h' X n (q + 1) (-1) ∧ ∀ j, rb_hI h' 62 j = rb_hI g 62 j) ∧ (¬ (q < min X.length 60 ∧ sgIn X q 48 10) → ∃ h', fM_oneOf 48 10 g = some (0, h') ∧ rdA h h' X n q (nI q)) := fun {g q} hg hq => by
    have o := one_two (f := 48) (m := 10) hg.1 hX (by omega) (by omega) (by omega)
    refine ⟨fun z => ?_, fun z => ?_⟩
    · obtain ⟨h', a1, a2, a3⟩ := o.1 z
      exact ⟨h', a1, rdA_ag hg a2 a3, fun j => AgI a3 (by decide) j⟩
    · obtain ⟨h', a1, a2, a3⟩ := o.2 z
      exact ⟨h', a1, rdA_ag hg a2 a3⟩
  have ill : ∀ {g : rb_H} {q : Nat}, rdA h g X n q (nI q) → q ≤ 90 → fM_oneOf 48 10 g = some (0, g) := fun {g q} hg hq => rp_oneOf2 hg.1 (nmq (by omega)) _ _
  rcases actN_5.mp hc with z | z | z | z | z
  · -- m
    have s0 : (shp 109).getD 0 0 = 48 := by decide
    have s1 : (shp 109).getD 1 0 = 97 := by decide
    have s2 : (shp 109).getD 2 0 = 49 := by decide
    have sl : (shp 109).length = 3 := by decide
    unfold actE actT
    rw [z] at E0 ⊢
    rw [sl, if_neg (by decide)]
    have k0 := ok_d (p := p) hX s0
    have k1 := ok_a (p := p) hX s1
    have k2 := ok_1 (p := p) hX s2
    have t102 : ∀ g, fM_readAct_102 (nI (4 * n)) (nI 109) g = some g := fun g => by
      unfold fM_readAct_102 fM_readAct_130
      rw [if_neg (by decide), if_neg (by decide), if_neg (by decide)]
    refine ⟨fun i hi h1 h2 => ?_, fun h1 => ?_⟩
    · rcases (show i = 0 ∨ i = 1 ∨ i = 2 by omega) with rfl | rfl | rfl
      · obtain ⟨g, a1, a2⟩ := (dig H0 (by omega)).2 (fun y => h2 (k0.mpr y))
        obtain ⟨x, b1⟩ := sq_ill (rdA_set a2 (i := 4 * n + 1) (by omega) 0).1 (nmq (by omega))
        rw [a1, Option.bind_some, if_pos (by decide)]
        dsimp only
        rw [b1, Option.bind_some, t102]
        exact ⟨_, rfl, rdA_set (rdA_set a2 (by omega) _) (by omega) _⟩
      · obtain ⟨g, a1, a2, a3⟩ := (dig H0 (by omega)).1 (k0.mp (h1 0 (by omega)))
        obtain ⟨x, g2, b1, b2, b3⟩ := (sq_two (rdA_set a2 (i := 4 * n + 1) (by omega) (nI (X.getD (p + 1) 0 - 48))).1 hX (by omega)).2.2 (fun y => h2 (k1.mpr y))
        rw [a1, Option.bind_some, if_pos (by decide)]
        dsimp only
        rw [b1, Option.bind_some, t102]
        exact ⟨_, rfl, rdA_set (rdA_ag (rdA_set a2 (by omega) _) b2 b3) (by omega) _⟩
      · obtain ⟨g, a1, a2, a3⟩ := (dig H0 (by omega)).1 (k0.mp (h1 0 (by omega)))
        obtain ⟨x, g2, b1, b2, b3⟩ := (sq_two (rdA_set a2 (i := 4 * n + 1) (by omega) (nI (X.getD (p + 1) 0 - 48))).1 hX (by omega)).2.1 (k1.mp (h1 1 (by omega))) (fun y => h2 (k2.mpr y))
        rw [a1, Option.bind_some, if_pos (by decide)]
        dsimp only
        rw [b1, Option.bind_some, t102]
        exact ⟨_, rfl, rdA_set (rdA_ag (rdA_set a2 (by omega) _) b2 b3) (by omega) _⟩
    · obtain ⟨g, a1, a2, a3⟩ := (dig H0 (by omega)).1 (k0.mp (h1 0 (by omega)))
      obtain ⟨g2, b1, b2, b3⟩ := (sq_two (rdA_set a2 (i := 4 * n + 1) (by omega) (nI (X.getD (p + 1) 0 - 48))).1 hX (by omega)).1 (k1.mp (h1 1 (by omega))) (k2.mp (h1 2 (by omega)))
      rw [a1, Option.bind_some, if_pos (by decide)]
      dsimp only
      rw [b1, Option.bind_some, t102]
      refine ⟨_, rfl, rdA_set (rdA_ag (rdA_set a2 (by omega) _) b2 b3) (by omega) _, ?_, fun _ => ?_, fun _ _ => ?_, fun y => absurd y (by decide)⟩
      · rw [e62, if_neg (by omega), AgI b3 (by decide), e62, if_neg (by omega), a3]
        exact E0
      · rw [e62, if_neg (by omega), AgI b3 (by decide), e62, if_pos rfl]
      · rw [e62, if_pos rfl, if_pos rfl]
  · -- n
    have s0 : (shp 110).getD 0 0 = 48 := by decide
    have sl : (shp 110).length = 1 := by decide
    unfold actE actT
    rw [z] at E0 ⊢
    rw [sl, if_neg (by decide)]
    have k0 := ok_d (p := p) hX s0
    have t102 : ∀ g, fM_readAct_102 (nI (4 * n)) (nI 110) g = some g := fun g => by
      unfold fM_readAct_102 fM_readAct_130
      rw [if_neg (by decide), if_neg (by decide), if_neg (by decide)]
    refine ⟨fun i hi h1 h2 => ?_, fun h1 => ?_⟩
    · obtain rfl : i = 0 := by omega
      obtain ⟨g, a1, a2⟩ := (dig H0 (by omega)).2 (fun y => h2 (k0.mpr y))
      rw [a1, Option.bind_some, if_neg (by decide), t102]
      exact ⟨_, rfl, rdA_set a2 (by omega) _⟩
    · obtain ⟨g, a1, a2, a3⟩ := (dig H0 (by omega)).1 (k0.mp (h1 0 (by omega)))
      rw [a1, Option.bind_some, if_neg (by decide), t102]
      refine ⟨_, rfl, rdA_set a2 (by omega) _, ?_, fun _ => ?_, fun _ y => absurd rfl y, fun y => absurd (show (110 : Nat) = 103 from y) (by decide)⟩
      · rw [e62, if_neg (by omega), a3]
        exact E0
      · rw [e62, if_pos rfl]
  · -- /
    have sl : (shp 47).length = 0 := by decide
    unfold actE actT
    rw [z] at E0 ⊢
    rw [sl, if_pos (by decide)]
    refine ⟨fun i hi => absurd hi (by omega), fun _ => ⟨H, rfl, H0, E0, fun y => absurd rfl y, fun y => absurd rfl y, fun y => absurd (show (47 : Nat) = 103 from y) (by decide)⟩⟩
  · -- g
    have s0 : (shp 103).getD 0 0 = 48 := by decide
    have s1 : (shp 103).getD 1 0 = 48 := by decide
    have s2 : (shp 103).getD 2 0 = 48 := by decide
    have s3 : (shp 103).getD 3 0 = 48 := by decide
    have sl : (shp 103).length = 4 := by decide
    unfold actE actT
    rw [z] at E0 ⊢
    rw [sl, if_neg (by decide)]
    have k0 := ok_d (p := p) hX s0
    have k1 := ok_d (p := p) hX s1
    have k2 := ok_d (p := p) hX s2
    have k3 := ok_d (p := p) hX s3
    have t102 : ∀ g, fM_readAct_102 (nI (4 * n)) (nI 103) g = (fM_oneOf 48 10 g).bind fun u7 => (fM_oneOf 48 10 (rb_sI u7.2 62 (4 * n + 2) u7.1)).bind fun u10 => (fM_oneOf 48 10 u10.2).bind fun u12 => some (rb_sI u12.2 62 (4 * n + 3) (10 * u10.1 + u12.1)) := fun g => by
      unfold fM_readAct_102 fM_readAct_114 fM_readAct_130
      rw [if_pos (by decide)]
      simp only [if_neg o2, if_neg o3, c2, c3, show nI 103 = (103 : Int32) from rfl, if_true]
    refine ⟨fun i hi h1 h2 => ?_, fun h1 => ?_⟩
    · rcases (show i = 0 ∨ i = 1 ∨ i = 2 ∨ i = 3 by omega) with rfl | rfl | rfl | rfl
      · obtain ⟨g, a1, a2⟩ := (dig H0 (by omega)).2 (fun y => h2 (k0.mpr y))
        have a3 := rdA_set a2 (i := 4 * n + 1) (by omega) 0
        have a4 := rdA_set a3 (i := 4 * n + 2) (by omega) 0
        rw [a1, Option.bind_some, if_neg (by decide), t102]
        dsimp only
        rw [ill a3 (by omega), Option.bind_some]
        dsimp only
        rw [ill a4 (by omega), Option.bind_some]
        dsimp only
        rw [ill a4 (by omega), Option.bind_some]
        exact ⟨_, rfl, rdA_set a4 (by omega) _⟩
      · obtain ⟨g, a1, a2, -⟩ := (dig H0 (by omega)).1 (k0.mp (h1 0 (by omega)))
        obtain ⟨g2, b1, b2⟩ := (dig (rdA_set a2 (i := 4 * n + 1) (by omega) (nI (X.getD (p + 1) 0 - 48))) (by omega)).2 (fun y => h2 (k1.mpr y))
        have a4 := rdA_set b2 (i := 4 * n + 2) (by omega) 0
        rw [a1, Option.bind_some, if_neg (by decide), t102]
        dsimp only
        rw [b1, Option.bind_some]
        dsimp only
        rw [ill a4 (by omega), Option.bind_some]
        dsimp only
        rw [ill a4 (by omega), Option.bind_some]
        exact ⟨_, rfl, rdA_set a4 (by omega) _⟩
      · obtain ⟨g, a1, a2, -⟩ := (dig H0 (by omega)).1 (k0.mp (h1 0 (by omega)))
        obtain ⟨g2, b1, b2, -⟩ := (dig (rdA_set a2 (i := 4 * n + 1) (by omega) (nI (X.getD (p + 1) 0 - 48))) (by omega)).1 (k1.mp (h1 1 (by omega)))
        obtain ⟨g3, d1, d2⟩ := (dig (rdA_set b2 (i := 4 * n + 2) (by omega) (nI (X.getD (p + 1 + 1) 0 - 48))) (by omega)).2 (fun y => h2 (k2.mpr y))
        rw [a1, Option.bind_some, if_neg (by decide), t102]
        dsimp only
        rw [b1, Option.bind_some]
        dsimp only
        rw [d1, Option.bind_some]
        dsimp only
        rw [ill d2 (by omega), Option.bind_some]
        exact ⟨_, rfl, rdA_set d2 (by omega) _⟩
      · obtain ⟨g, a1, a2, -⟩ := (dig H0 (by omega)).1 (k0.mp (h1 0 (by omega)))
        obtain ⟨g2, b1, b2, -⟩ := (dig (rdA_set a2 (i := 4 * n + 1) (by omega) (nI (X.getD (p + 1) 0 - 48))) (by omega)).1 (k1.mp (h1 1 (by omega)))
        obtain ⟨g3, d1, d2, -⟩ := (dig (rdA_set b2 (i := 4 * n + 2) (by omega) (nI (X.getD (p + 1 + 1) 0 - 48))) (by omega)).1 (k2.mp (h1 2 (by omega)))
        obtain ⟨g4, f1, f2⟩ := (dig d2 (by omega)).2 (fun y => h2 (k3.mpr y))
        rw [a1, Option.bind_some, if_neg (by decide), t102]
        dsimp only
        rw [b1, Option.bind_some]
        dsimp only
        rw [d1, Option.bind_some]
        dsimp only
        rw [f1, Option.bind_some]
        exact ⟨_, rfl, rdA_set f2 (by omega) _⟩
    · obtain ⟨g, a1, a2, a3⟩ := (dig H0 (by omega)).1 (k0.mp (h1 0 (by omega)))
      obtain ⟨g2, b1, b2, b3⟩ := (dig (rdA_set a2 (i := 4 * n + 1) (by omega) (nI (X.getD (p + 1) 0 - 48))) (by omega)).1 (k1.mp (h1 1 (by omega)))
      obtain ⟨g3, d1, d2, d3⟩ := (dig (rdA_set b2 (i := 4 * n + 2) (by omega) (nI (X.getD (p + 1 + 1) 0 - 48))) (by omega)).1 (k2.mp (h1 2 (by omega)))
      obtain ⟨g4, f1, f2, f3⟩ := (dig d2 (by omega)).1 (k3.mp (h1 3 (by omega)))
      rw [a1, Option.bind_some, if_neg (by decide), t102]
      dsimp only
      rw [b1, Option.bind_some]
      dsimp only
      rw [d1, Option.bind_some]
      dsimp only
      rw [f1, Option.bind_some]
      refine ⟨_, rfl, rdA_set f2 (by omega) _, ?_, fun _ => ?_, fun _ _ => ?_, fun _ => ?_⟩
      · rw [e62, if_neg (by omega), f3, d3, e62, if_neg (by omega), b3, e62, if_neg (by omega), a3]
        exact E0
      · rw [e62, if_neg (by omega), f3, d3, e62, if_neg (by omega), b3, e62, if_pos rfl]
      · rw [e62, if_neg (by omega), f3, d3, e62, if_pos rfl, if_neg (by decide)]
      · rw [e62, if_pos rfl]
        dsimp only
        rw [show (10 : Int32) * nI (X.getD (p + 1 + 1 + 1) 0 - 48) = nI (10 * (X.getD (p + 1 + 1 + 1) 0 - 48)) from pk_mul 10 _, nI_add]
  · -- w
    have s0 : (shp 119).getD 0 0 = 48 := by decide
    have s1 : (shp 119).getD 1 0 = 48 := by decide
    have sl : (shp 119).length = 2 := by decide
    unfold actE actT
    rw [z] at E0 ⊢
    rw [sl, if_neg (by decide)]
    have k0 := ok_d (p := p) hX s0
    have k1 := ok_d (p := p) hX s1
    have t102 : ∀ g, fM_readAct_102 (nI (4 * n)) (nI 119) g = (fM_oneOf 48 10 g).bind fun u7 => some (rb_sI u7.2 62 (4 * n + 2) u7.1) := fun g => by
      unfold fM_readAct_102 fM_readAct_114 fM_readAct_130
      rw [if_neg (by decide), if_pos (by decide)]
      simp only [if_neg o2, c2, if_neg (show ¬ nI 119 = (103 : Int32) by decide)]
    refine ⟨fun i hi h1 h2 => ?_, fun h1 => ?_⟩
    · rcases (show i = 0 ∨ i = 1 by omega) with rfl | rfl
      · obtain ⟨g, a1, a2⟩ := (dig H0 (by omega)).2 (fun y => h2 (k0.mpr y))
        have a3 := rdA_set a2 (i := 4 * n + 1) (by omega) 0
        rw [a1, Option.bind_some, if_neg (by decide), t102]
        dsimp only
        rw [ill a3 (by omega), Option.bind_some]
        exact ⟨_, rfl, rdA_set a3 (by omega) _⟩
      · obtain ⟨g, a1, a2, -⟩ := (dig H0 (by omega)).1 (k0.mp (h1 0 (by omega)))
        obtain ⟨g2, b1, b2⟩ := (dig (rdA_set a2 (i := 4 * n + 1) (by omega) (nI (X.getD (p + 1) 0 - 48))) (by omega)).2 (fun y => h2 (k1.mpr y))
        rw [a1, Option.bind_some, if_neg (by decide), t102]
        dsimp only
        rw [b1, Option.bind_some]
        exact ⟨_, rfl, rdA_set b2 (by omega) _⟩
    · obtain ⟨g, a1, a2, a3⟩ := (dig H0 (by omega)).1 (k0.mp (h1 0 (by omega)))
      obtain ⟨g2, b1, b2, b3⟩ := (dig (rdA_set a2 (i := 4 * n + 1) (by omega) (nI (X.getD (p + 1) 0 - 48))) (by omega)).1 (k1.mp (h1 1 (by omega)))
      rw [a1, Option.bind_some, if_neg (by decide), t102]
      dsimp only
      rw [b1, Option.bind_some]
      refine ⟨_, rfl, rdA_set b2 (by omega) _, ?_, fun _ => ?_, fun _ _ => ?_, fun y => absurd y (by decide)⟩
      · rw [e62, if_neg (by omega), b3, e62, if_neg (by omega), a3]
        exact E0
      · rw [e62, if_neg (by omega), b3, e62, if_pos rfl]
      · rw [e62, if_pos rfl, if_neg (by decide)]
theorem M_act0 {h : rb_H} (hM : rp_M h 52 X 60 p (-1)) (hX : rp_X X 60) (hp : p ≤ 60) (hc : p < min X.length 60 → actN (X.getD p 0) = 5) : ∃ h', fM_readAct (nI (4 * n)) h = some h' ∧ rdA h h' X n p (nI p) := by
  refine ⟨rb_sF h 49 12 (nI p), ?_, rp_M_w hM (nI p), Ag_sF (by decide) (Ag_refl _ _), fun j hj => rfl⟩
  unfold fM_readAct fM_readAct_0
  rw [rp_here hM hX (by omega), Option.bind_some]
  have no : hereN X 60 p ≠ 109 ∧ hereN X 60 p ≠ 110 ∧ hereN X 60 p ≠ 47 ∧ hereN X 60 p ≠ 103 ∧ hereN X 60 p ≠ 119 := by
    by_cases z : p < min X.length 60
    · rw [hereN_y z]
      have a5 := hc z
      have ci := sg_lt hX.2.1 p
      have ne : ∀ v, v < 256 → actN v ≠ 5 → nI (X.getD p 0) ≠ nI v := fun v hv h5 y => by
        have := (nI_eq (show X.getD p 0 < 2 ^ 31 by omega) (show v < 2 ^ 31 by omega)).mp y
        rw [this] at a5
        exact h5 a5
      exact ⟨ne 109 (by omega) (by decide), ne 110 (by omega) (by decide), ne 47 (by omega) (by decide), ne 103 (by omega) (by decide), ne 119 (by omega) (by decide)⟩
    · rw [hereN_n z]
      decide
  rw [if_neg no.1, if_neg no.2.1, if_neg no.2.2.1, if_neg no.2.2.2.1, if_neg no.2.2.2.2]
  simp only [rb_lt]
  rw [rp_fault hM]
end
