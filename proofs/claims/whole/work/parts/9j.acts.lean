/-! acts: the reading -/
def actN (c : Nat) : Nat := if c = 109 then 0 else if c = 110 then 1 else if c = 47 then 2 else if c = 103 then 3 else if c = 119 then 4 else 5
theorem actN_5 {c : Nat} : actN c ≠ 5 ↔ (c = 109 ∨ c = 110 ∨ c = 47 ∨ c = 103 ∨ c = 119) := by
  unfold actN
  repeat (first | omega | split)
theorem actN_le (c : Nat) : actN c ≤ 5 := by
  unfold actN
  repeat (first | omega | split)
theorem rp_ix5 : ∀ c, c < 256 → rb_iter 7 (fun s => fJL_indexOfChar_7b 203 5 (rb_i2b (nI c)) s rp_h0) (0 : Int32) = some (if actN c = 5 then .inr () else .inl (nI (actN c))) := by decide +kernel
theorem rp_ixA {c : Nat} (hc : c < 256) (h : rb_H) : fJS_indexOf1 103 (nI c) h = some (if actN c = 5 then -1 else nI (actN c)) := by
  have e : (rb_iter rb_fuel (fun s => fJL_indexOfChar_7b 203 5 (rb_i2b (nI c)) s h) (0 : Int32)) = _ := rb_iter_few 7 (by decide) (rp_ix5 c hc)
  have e1 : fJL_indexOfChar 203 (nI c) 0 5 h = some (if actN c = 5 then -1 else nI (actN c)) := by
    unfold fJL_indexOfChar fJL_indexOfChar_0
    rw [e]
    by_cases z : actN c = 5
    · rw [if_pos z, if_pos z]; rfl
    · rw [if_neg z, if_neg z]; rfl
  have e2 : fJS_length 103 = some 5 := by decide +kernel
  have e3 : fJS_isLatin1 103 = true := by decide +kernel
  unfold fJS_indexOf1 fJS_indexOf1_0 fJS_indexOf2 fJS_indexOf2_0
  rw [if_pos e3, e2]
  simp only [Option.bind_some]
  unfold fJL_indexOf fJL_indexOf_0
  have e4 : rb_max (0 : Int32) 0 = 0 := by decide +kernel
  have e5 : rb_min (5 : Int32) (Int32.ofNat (rb_slL.getD (100 + 103 - 200) 0)) = 5 := by decide +kernel
  rw [if_pos (rp_enc c hc), e4, e5, if_pos (by decide), e1]
  rfl
def shp (c : Nat) : List Nat := if c = 109 then [48, 97, 49] else if c = 110 then [48] else if c = 103 then [48, 48, 48, 48] else if c = 119 then [48, 48] else []
theorem shp_len {c : Nat} (h : actN c ≠ 5) : fJS_length (fB_shapeOf (nI c)) = some (nI (shp c).length) ∧ (shp c).length ≤ 4 ∧ ∀ i, i < (shp c).length → fJS_charAt (fB_shapeOf (nI c)) (nI i) rp_h0 = some (nI ((shp c).getD i 0)) := by
  rcases actN_5.mp h with rfl | rfl | rfl | rfl | rfl <;> exact ⟨by decide +kernel, by decide, by decide +kernel⟩
section
variable {X : List Nat} {p : Nat}
/-- sign i behind the letter of an act is right -/
def okS (X : List Nat) (p c i : Nat) : Prop := p + 1 + i < min X.length 60 ∧ fB_suits (nI (X.getD (p + 1 + i) 0)) (nI ((shp c).getD i 0)) = true
theorem fo_step {h : rb_H} (hT : TXc h X) (hX : rp_X X 60) (hp : p ≤ 60) {c i : Nat} (hc : actN c ≠ 5) (hi : i < (shp c).length) : (okS X p c i → fB_gameFault_54b (nI (min X.length 60)) (nI p) (fB_shapeOf (nI c)) (nI i) h = some (.inl (nI (i + 1)))) ∧ (¬ okS X p c i → fB_gameFault_54b (nI (min X.length 60)) (nI p) (fB_shapeOf (nI c)) (nI i) h = some (.inr (.inl (nI (p + 1 + i))))) := by
  obtain ⟨l1, l2, l3⟩ := shp_len hc
  have e : (nI p + 1 : Int32) + nI i = nI (p + 1 + i) := by rw [nI_1, nI_add]
  have base : fB_gameFault_54b (nI (min X.length 60)) (nI p) (fB_shapeOf (nI c)) (nI i) h = if nI (min X.length 60) ≤ nI (p + 1 + i) then some (.inr (.inl (nI (p + 1 + i)))) else if fB_suits (nI (X.getD (p + 1 + i) 0)) (nI ((shp c).getD i 0)) = true then some (.inl (nI (i + 1))) else some (.inr (.inl (nI (p + 1 + i)))) := by
    unfold fB_gameFault_54b
    rw [l1, Option.bind_some, if_neg (nI_ge hi (by omega)), e, at_any hT hX.1 hX.2.1 (by omega), Option.bind_some, ch_at, l3 i hi, Option.bind_some, nI_1]
  rw [base]
  unfold okS
  by_cases z : p + 1 + i < min X.length 60
  · rw [if_neg (nI_ge z (by omega))]
    by_cases y : fB_suits (nI (X.getD (p + 1 + i) 0)) (nI ((shp c).getD i 0)) = true
    · rw [if_pos y]
      exact ⟨fun _ => rfl, fun n => absurd ⟨z, y⟩ n⟩
    · rw [if_neg y]
      exact ⟨fun n => absurd n.2 y, fun _ => rfl⟩
  · rw [if_pos (nI_le (by omega) (by omega))]
    exact ⟨fun n => absurd n.1 z, fun _ => rfl⟩
theorem fo_end {h : rb_H} {c : Nat} (hc : actN c ≠ 5) : fB_gameFault_54b (nI (min X.length 60)) (nI p) (fB_shapeOf (nI c)) (nI (shp c).length) h = some (.inr (.inr ())) := by
  obtain ⟨l1, l2, l3⟩ := shp_len hc
  unfold fB_gameFault_54b
  rw [l1, Option.bind_some, if_pos (nI_le (Nat.le_refl _) (by omega))]
/-- the class's look at an act -/
theorem C_act {h : rb_H} (hT : TXc h X) (hX : rp_X X 60) (hp : p < min X.length 60) (hc : actN (X.getD p 0) ≠ 5) : (∀ i, i < (shp (X.getD p 0)).length → (∀ j, j < i → okS X p (X.getD p 0) j) → ¬ okS X p (X.getD p 0) i → fB_gameFault_15b (nI (min X.length 60)) (nI p) h = some (.inr (.inr (.inl (nI (p + 1 + i)))))) ∧ ((∀ j, j < (shp (X.getD p 0)).length → okS X p (X.getD p 0) j) → fB_gameFault_15b (nI (min X.length 60)) (nI p) h = some (.inl (nI (p + 1 + (shp (X.getD p 0)).length)))) := by
  obtain ⟨l1, l2, l3⟩ := shp_len hc
  have a := at_any hT hX.1 hX.2.1 (show p < 2 ^ 31 by omega)
  have base : fB_gameFault_15b (nI (min X.length 60)) (nI p) h = (rb_iter rb_fuel (fun s => fB_gameFault_54b (nI (min X.length 60)) (nI p) (fB_shapeOf (nI (X.getD p 0))) s h) (0 : Int32)).bind (Sum.elim (fun x19 => some (.inr (.inr (.inl x19)))) (fun x20 => some (.inl (nI p + (1 + nI (shp (X.getD p 0)).length))))) := by
    unfold fB_gameFault_15b
    rw [if_neg (nI_ge hp (by omega)), a, Option.bind_some, rp_ixA (sg_lt hX.2.1 p), Option.bind_some, if_neg hc, if_pos (nI_pos' (by have := actN_le (X.getD p 0); omega)), Option.bind_some, Option.bind_some, l1]
    rfl
  rw [base]
  constructor
  · intro i hi h1 h2
    rw [show rb_iter rb_fuel (fun s => fB_gameFault_54b (nI (min X.length 60)) (nI p) (fB_shapeOf (nI (X.getD p 0))) s h) (0 : Int32) = some (Sum.inl (nI (p + 1 + i))) from rb_run' (fun k => nI k) i rfl (by omega) (fun k hk => (fo_step hT hX (by omega) hc (by omega)).1 (h1 k hk)) ((fo_step hT hX (by omega) hc hi).2 h2)]
    rfl
  · intro h1
    rw [show rb_iter rb_fuel (fun s => fB_gameFault_54b (nI (min X.length 60)) (nI p) (fB_shapeOf (nI (X.getD p 0))) s h) (0 : Int32) = some (Sum.inr ()) from rb_run' (fun k => nI k) (shp (X.getD p 0)).length rfl (by omega) (fun k hk => (fo_step hT hX (by omega) hc hk).1 (h1 k hk)) (fo_end hc), Option.bind_some]
    show some (Sum.inl (nI p + (1 + nI (shp (X.getD p 0)).length)) : Int32 ⊕ (Int32 ⊕ (Int32 ⊕ Unit))) = _
    rw [show (1 : Int32) + nI (shp (X.getD p 0)).length = nI (1 + (shp (X.getD p 0)).length) from nI_add 1 _, nI_add, show p + (1 + (shp (X.getD p 0)).length) = p + 1 + (shp (X.getD p 0)).length by omega]
end
section
variable {X : List Nat} {q a : Nat} {h : rb_H}
theorem one_two (hM : rp_M h a X 60 q (-1)) (hX : rp_X X 60) (hq : q ≤ 100) {f m : Nat} (hf : f + m ≤ 128) (h1 : 1 ≤ m) : (q < min X.length 60 ∧ sgIn X q f m → ∃ h', fM_oneOf (nI f) (nI m) h = some (nI (X.getD q 0 - f), h') ∧ rp_M h' a X 60 (q + 1) (-1) ∧ Ag [1011, 1012] h h') ∧ (¬ (q < min X.length 60 ∧ sgIn X q f m) → ∃ h', fM_oneOf (nI f) (nI m) h = some (0, h') ∧ rp_M h' a X 60 q (nI q) ∧ Ag [1011, 1012] h h') := by
  rcases rp_oneOf hM hX hq hf h1 with ⟨c, c1, c2, c3, c4, c5, c6⟩ | ⟨c1, c2⟩
  · subst c3
    exact ⟨fun _ => ⟨_, c6, rp_M_at hM (q + 1), Ag_sF (by decide) (Ag_refl _ _)⟩, fun n => absurd ⟨c2, c4, c5⟩ n⟩
  · refine ⟨fun z => ?_, fun _ => ⟨_, c2, rp_M_w hM (nI q), Ag_sF (by decide) (Ag_refl _ _)⟩⟩
    have z2 := z.2
    unfold sgIn at z2
    omega
theorem sq_two (hM : rp_M h a X 60 q (-1)) (hX : rp_X X 60) (hq : q ≤ 90) : (q < min X.length 60 ∧ sgIn X q 97 5 → q + 1 < min X.length 60 ∧ sgIn X (q + 1) 49 5 → ∃ h', fM_squareOf h = some (nI ((X.getD q 0 - 97) + 5 * (X.getD (q + 1) 0 - 49)), h') ∧ rp_M h' a X 60 (q + 2) (-1) ∧ Ag [1011, 1012] h h') ∧ (q < min X.length 60 ∧ sgIn X q 97 5 → ¬ (q + 1 < min X.length 60 ∧ sgIn X (q + 1) 49 5) → ∃ x h', fM_squareOf h = some (x, h') ∧ rp_M h' a X 60 (q + 1) (nI (q + 1)) ∧ Ag [1011, 1012] h h') ∧ (¬ (q < min X.length 60 ∧ sgIn X q 97 5) → ∃ x h', fM_squareOf h = some (x, h') ∧ rp_M h' a X 60 q (nI q) ∧ Ag [1011, 1012] h h') := by
  have o1 := one_two (f := 97) (m := 5) hM hX (by omega) (by omega) (by omega)
  unfold fM_squareOf fM_squareOf_0
  refine ⟨fun z1 z2 => ?_, fun z1 z2 => ?_, fun z1 => ?_⟩
  · obtain ⟨h1, a1, a2, a3⟩ := o1.1 z1
    obtain ⟨h2, b1, b2, b3⟩ := (one_two (f := 49) (m := 5) a2 hX (by omega) (by omega) (by omega)).1 z2
    rw [show fM_oneOf (97 : Int32) 5 h = _ from a1, Option.bind_some]
    dsimp only
    rw [show fM_oneOf (49 : Int32) 5 h1 = _ from b1, Option.bind_some]
    dsimp only
    rw [show (5 : Int32) * nI (X.getD (q + 1) 0 - 49) = nI (5 * (X.getD (q + 1) 0 - 49)) from pk_mul 5 _, nI_add]
    exact ⟨h2, rfl, b2, Ag_trans a3 b3⟩
  · obtain ⟨h1, a1, a2, a3⟩ := o1.1 z1
    obtain ⟨h2, b1, b2, b3⟩ := (one_two (f := 49) (m := 5) a2 hX (by omega) (by omega) (by omega)).2 z2
    rw [show fM_oneOf (97 : Int32) 5 h = _ from a1, Option.bind_some]
    dsimp only
    rw [show fM_oneOf (49 : Int32) 5 h1 = _ from b1, Option.bind_some]
    exact ⟨_, h2, rfl, b2, Ag_trans a3 b3⟩
  · obtain ⟨h1, a1, a2, a3⟩ := o1.2 z1
    rw [show fM_oneOf (97 : Int32) 5 h = _ from a1, Option.bind_some]
    dsimp only
    rw [rp_oneOf2 a2 (fun z => m1_nI (show q < 2 ^ 31 by omega) z.symm), Option.bind_some]
    exact ⟨_, h1, rfl, a2, a3⟩
theorem sq_ill {top p : Nat} {w : Int32} (hM : rp_M h a X top p w) (hw : w ≠ -1) : ∃ x, fM_squareOf h = some (x, h) := by
  unfold fM_squareOf fM_squareOf_0
  rw [rp_oneOf2 hM hw, Option.bind_some]
  dsimp only
  rw [rp_oneOf2 hM hw, Option.bind_some]
  exact ⟨_, rfl⟩
end
/-- an act in the model's row: letter, digit, digit or square, number -/
abbrev sAc : Type := Nat × Nat × Nat × Nat
def actE (h : rb_H) (n : Nat) (A : sAc) : Prop := rb_hI h 62 (4 * n) = nI A.1 ∧ (A.1 ≠ 47 → rb_hI h 62 (4 * n + 1) = nI A.2.1) ∧ (A.1 ≠ 47 → A.1 ≠ 110 → rb_hI h 62 (4 * n + 2) = nI A.2.2.1) ∧ (A.1 = 103 → rb_hI h 62 (4 * n + 3) = nI A.2.2.2)
/-- an act in the text -/
def actT (X : List Nat) (p : Nat) : sAc := (X.getD p 0, X.getD (p + 1) 0 - 48, if X.getD p 0 = 109 then (X.getD (p + 2) 0 - 97) + 5 * (X.getD (p + 3) 0 - 49) else X.getD (p + 2) 0 - 48, 10 * (X.getD (p + 3) 0 - 48) + (X.getD (p + 4) 0 - 48))
section
variable {X : List Nat} {p n : Nat}
theorem ok_d (hX : rp_X X 60) {c i : Nat} (e : (shp c).getD i 0 = 48) : okS X p c i ↔ p + 1 + i < min X.length 60 ∧ sgIn X (p + 1 + i) 48 10 := by
  unfold okS
  rw [e, show nI 48 = 48 from rfl, (su_in hX.2.1 (p + 1 + i)).2.2]
theorem ok_a (hX : rp_X X 60) {c i : Nat} (e : (shp c).getD i 0 = 97) : okS X p c i ↔ p + 1 + i < min X.length 60 ∧ sgIn X (p + 1 + i) 97 5 := by
  unfold okS
  rw [e, show nI 97 = 97 from rfl, (su_in hX.2.1 (p + 1 + i)).1]
theorem ok_1 (hX : rp_X X 60) {c i : Nat} (e : (shp c).getD i 0 = 49) : okS X p c i ↔ p + 1 + i < min X.length 60 ∧ sgIn X (p + 1 + i) 49 5 := by
  unfold okS
  rw [e, show nI 49 = 49 from rfl, (su_in hX.2.1 (p + 1 + i)).2.1]
end
