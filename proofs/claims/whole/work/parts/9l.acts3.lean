/-! acts: the reading of all; the doing -/
/-- the acts of a text from a place on -/
def isA (X : List Nat) : Nat → List sAc → Prop
  | p, [] => p = X.length
  | p, A :: L => p < X.length ∧ actN (X.getD p 0) ≠ 5 ∧ p + 1 + (shp (X.getD p 0)).length ≤ X.length ∧ (∀ j, j < (shp (X.getD p 0)).length → okS X p (X.getD p 0) j) ∧ A = actT X p ∧ isA X (p + 1 + (shp (X.getD p 0)).length) L
theorem isA_len {X : List Nat} : ∀ (L : List sAc) (p : Nat), isA X p L → p + L.length ≤ X.length
  | [], p, h => by
    have h : p = X.length := h
    simp [h]
  | A :: L, p, h => by
    have := isA_len L _ h.2.2.2.2.2
    simp only [List.length_cons]
    omega
/-- the model's row holds acts from a number on -/
def actsE (h : rb_H) : Nat → List sAc → Prop
  | _, [] => True
  | n, A :: L => actE h n A ∧ actsE h (n + 1) L
theorem actE_lo {h h' : rb_H} {n : Nat} {A : sAc} (hE : actE h n A) (hl : ∀ j, j < 4 * (n + 1) → rb_hI h' 62 j = rb_hI h 62 j) : actE h' n A := by
  unfold actE at hE ⊢
  rw [hl _ (by omega), hl _ (by omega), hl _ (by omega), hl _ (by omega)]
  exact hE
theorem actsE_ag {h h' : rb_H} {Lx : List Nat} (hA : Ag Lx h h') (hL : 62 ∉ Lx) : ∀ (L : List sAc) (n : Nat), actsE h n L → actsE h' n L
  | [], _, _ => trivial
  | A :: L, n, hE => ⟨actE_lo hE.1 (fun j _ => AgI hA hL j), actsE_ag hA hL L (n + 1) hE.2⟩
def gmK (X : List Nat) : Int32 ⊕ (Int32 ⊕ Unit) → Option Int32 := Sum.elim (fun x29 => some x29) (Sum.elim (fun x30 => some x30) (fun _ => if nI X.length ≤ (60 : Int32) then some (-1) else some (60 : Int32)))
section
variable {X : List Nat}
theorem gm_read (hX : rp_X X 60) : ∀ (j n p : Nat), min X.length 60 - p ≤ j → n ≤ p → p ≤ min X.length 60 →
    (∃ q, q ≤ 60 ∧ (∀ h m, TXc h X → j < m → (rb_iter m (fun s => fB_gameFault_15b (nI (min X.length 60)) s h) (nI p)).bind (gmK X) = some (nI q)) ∧ ∀ h m, rp_M h 52 X 60 p (-1) → j + 1 < m → ∃ x h' h'', rb_iter m (fun s => fM_game_13b s.1 s.2) (nI n, h) = some (x, h') ∧ fM_wasRight h' = (false, h'') ∧ rb_hF h'' 49 12 = nI q ∧ Ag [62, 1011, 1012] h h'') ∨
    ∃ L, X.length ≤ 60 ∧ isA X p L ∧ (∀ h m, TXc h X → j < m → (rb_iter m (fun s => fB_gameFault_15b (nI (min X.length 60)) s h) (nI p)).bind (gmK X) = some (-1)) ∧ ∀ h m, rp_M h 52 X 60 p (-1) → j + 1 < m → ∃ h', rb_iter m (fun s => fM_game_13b s.1 s.2) (nI n, h) = some (nI (n + L.length), h') ∧ fM_wasRight h' = (true, h') ∧ actsE h' n L ∧ Ag [62, 1011, 1012] h h' ∧ ∀ i, i < 4 * n → rb_hI h' 62 i = rb_hI h 62 i
  | j, n, p, hj, hn, hp => by
    have lx := hX.1
    have go : ∀ h, rp_M h 52 X 60 p (-1) → p < X.length → fM_game_13b (nI n) h = (fM_readAct (nI (4 * n)) h).bind fun u5 => some (.inl (nI (n + 1), u5)) := fun h hM hl => by
      unfold fM_game_13b
      rw [rp_fine hM, if_pos rfl, hM.2.2.2.1, hM.2.2.2.2.2.1, if_neg (nI_ge hl (by omega)), n4, nI_1]
    have stop : ∀ (x : Int32) (h : rb_H) (q p' : Nat), q ≤ 100 → rp_M h 52 X 60 p' (nI q) → fM_game_13b x h = some (.inr (x, h)) := fun x h q p' hq hM => by
      unfold fM_game_13b
      rw [rp_ill hM (nmq (by omega)), if_neg (by decide)]
    -- a fault of the model here
    have bad : ∀ q, q ≤ 60 → p < X.length → (∀ h, rp_M h 52 X 60 p (-1) → ∃ h', fM_readAct (nI (4 * n)) h = some h' ∧ rdA h h' X n q (nI q)) → ∀ h m, rp_M h 52 X 60 p (-1) → j + 1 < m → ∃ x h' h'', rb_iter m (fun s => fM_game_13b s.1 s.2) (nI n, h) = some (x, h') ∧ fM_wasRight h' = (false, h'') ∧ rb_hF h'' 49 12 = nI q ∧ Ag [62, 1011, 1012] h h'' := fun q hq hl hr h m hM hm => by
      obtain ⟨m, rfl⟩ : ∃ k, m = k + 2 := ⟨m - 2, by omega⟩
      obtain ⟨h', r1, r2, r3, r4⟩ := hr h hM
      refine ⟨nI (n + 1), h', h', ?_, rp_right2 r2 hX (nmq (by omega)), r2.2.2.2.2.2.2.1, r3⟩
      rw [rb_iter_inl (s' := (nI (n + 1), h')) ?_, rb_iter_inr (stop _ _ q q (by omega) r2)]
      show fM_game_13b (nI n) h = _
      rw [go h hM hl, r1, Option.bind_some]
    by_cases c0 : p < min X.length 60
    · obtain ⟨j, rfl⟩ : ∃ k, j = k + 1 := ⟨j - 1, by omega⟩
      by_cases a5 : actN (X.getD p 0) = 5
      · refine Or.inl ⟨p, by omega, fun h m hT hm => ?_, bad p (by omega) (by omega) (fun h hM => M_act0 hM hX (by omega) (fun _ => a5))⟩
        obtain ⟨m, rfl⟩ : ∃ k, m = k + 1 := ⟨m - 1, by omega⟩
        rw [rb_iter_inr (x := .inl (nI p)) ?_]
        · rfl
        · unfold fB_gameFault_15b
          rw [if_neg (nI_ge c0 (by omega)), at_any hT hX.1 hX.2.1 (by omega), Option.bind_some, rp_ixA (sg_lt hX.2.1 p), Option.bind_some, if_pos a5, if_neg (by decide)]
      · obtain ⟨l1, l2, -⟩ := shp_len a5
        by_cases allok : ∀ i, i < (shp (X.getD p 0)).length → okS X p (X.getD p 0) i
        · have pn : p + 1 + (shp (X.getD p 0)).length ≤ min X.length 60 := by
            by_cases z : (shp (X.getD p 0)).length = 0
            · omega
            · have := (allok ((shp (X.getD p 0)).length - 1) (by omega)).1
              omega
          have stepC : ∀ h, TXc h X → fB_gameFault_15b (nI (min X.length 60)) (nI p) h = some (.inl (nI (p + 1 + (shp (X.getD p 0)).length))) := fun h hT => (C_act hT hX c0 a5).2 allok
          have stepM : ∀ h, rp_M h 52 X 60 p (-1) → ∃ h', fM_game_13b (nI n) h = some (.inl (nI (n + 1), h')) ∧ rdA h h' X n (p + 1 + (shp (X.getD p 0)).length) (-1) ∧ actE h' n (actT X p) := fun h hM => by
            obtain ⟨h', r1, r2, r3⟩ := (M_act1 (n := n) hM hX c0 (by omega) a5).2 allok
            refine ⟨h', ?_, r2, r3⟩
            rw [go h hM (by omega), r1, Option.bind_some]
          rcases gm_read hX j (n + 1) (p + 1 + (shp (X.getD p 0)).length) (by omega) (by omega) pn with ⟨q, hq, hC, hM⟩ | ⟨L, hx, hL, hC, hM⟩
          · refine Or.inl ⟨q, hq, fun h m hT hm => ?_, fun h m hM0 hm => ?_⟩
            · obtain ⟨m, rfl⟩ : ∃ k, m = k + 1 := ⟨m - 1, by omega⟩
              rw [rb_iter_inl (stepC h hT)]
              exact hC h m hT (by omega)
            · obtain ⟨m, rfl⟩ : ∃ k, m = k + 1 := ⟨m - 1, by omega⟩
              obtain ⟨h1, e1, e2, e3⟩ := stepM h hM0
              obtain ⟨x, h2, h3, f1, f2, f3, f4⟩ := hM h1 m e2.1 (by omega)
              refine ⟨x, h2, h3, ?_, f2, f3, Ag_trans e2.2.1 f4⟩
              rw [rb_iter_inl e1]
              exact f1
          · refine Or.inr ⟨actT X p :: L, hx, ⟨by omega, a5, by omega, allok, rfl, hL⟩, fun h m hT hm => ?_, fun h m hM0 hm => ?_⟩
            · obtain ⟨m, rfl⟩ : ∃ k, m = k + 1 := ⟨m - 1, by omega⟩
              rw [rb_iter_inl (stepC h hT)]
              exact hC h m hT (by omega)
            · obtain ⟨m, rfl⟩ : ∃ k, m = k + 1 := ⟨m - 1, by omega⟩
              obtain ⟨h1, e1, e2, e3⟩ := stepM h hM0
              obtain ⟨h2, f1, f2, f3, f4, f5⟩ := hM h1 m e2.1 (by omega)
              refine ⟨h2, ?_, f2, ⟨actE_lo e3 f5, f3⟩, Ag_trans e2.2.1 f4, fun i hi => (f5 i (by omega)).trans (e2.2.2 i hi)⟩
              rw [rb_iter_inl e1]
              refine f1.trans ?_
              rw [List.length_cons, show n + (L.length + 1) = n + 1 + L.length by omega]
        · have : ∃ i, i < (shp (X.getD p 0)).length ∧ (∀ k, k < i → okS X p (X.getD p 0) k) ∧ ¬ okS X p (X.getD p 0) i := by
            have : ∃ i, i < (shp (X.getD p 0)).length ∧ ¬ okS X p (X.getD p 0) i := by
              simpa using allok
            obtain ⟨i, h1, h2, h3⟩ := @fb_first (fun i => ¬ okS X p (X.getD p 0) i) (fun _ => Classical.propDecidable _) _ this
            exact ⟨i, h1, fun k hk => Classical.not_not.mp (h3 k hk), h2⟩
          obtain ⟨i, i1, i2, i3⟩ := this
          have pq : p + 1 + i ≤ 60 := by
            by_cases z : i = 0
            · omega
            · have := (i2 (i - 1) (by omega)).1
              omega
          refine Or.inl ⟨p + 1 + i, pq, fun h m hT hm => ?_, bad _ pq (by omega) (fun h hM => (M_act1 (n := n) hM hX c0 (by omega) a5).1 i i1 i2 i3)⟩
          obtain ⟨m, rfl⟩ : ∃ k, m = k + 1 := ⟨m - 1, by omega⟩
          rw [rb_iter_inr ((C_act hT hX c0 a5).1 i i1 i2 i3)]
          rfl
    · have cend : ∀ h m, TXc h X → j < m → (rb_iter m (fun s => fB_gameFault_15b (nI (min X.length 60)) s h) (nI p)).bind (gmK X) = if nI X.length ≤ (60 : Int32) then some (-1) else some (60 : Int32) := fun h m hT hm => by
        obtain ⟨m, rfl⟩ : ∃ k, m = k + 1 := ⟨m - 1, by omega⟩
        rw [rb_iter_inr (x := .inr (.inr ())) ?_]
        · rfl
        · unfold fB_gameFault_15b
          rw [if_pos (nI_le (by omega) (by omega))]
      by_cases c1 : X.length ≤ 60
      · refine Or.inr ⟨[], c1, by show p = X.length; omega, fun h m hT hm => ?_, fun h m hM hm => ?_⟩
        · rw [cend h m hT hm, if_pos (show nI X.length ≤ (60 : Int32) from nI_le (b := 60) c1 (by omega))]
        · obtain ⟨m, rfl⟩ : ∃ k, m = k + 1 := ⟨m - 1, by omega⟩
          have e := rp_right hM hX (by omega)
          rw [if_neg (by omega)] at e
          refine ⟨h, ?_, e, trivial, Ag_refl _ _, fun _ _ => rfl⟩
          rw [rb_iter_inr (x := (nI n, h)) ?_]
          · rfl
          · unfold fM_game_13b
            dsimp only
            rw [rp_fine hM, if_pos rfl, hM.2.2.2.1, hM.2.2.2.2.2.1, if_pos (nI_le (by omega) (by omega))]
      · refine Or.inl ⟨60, Nat.le_refl _, fun h m hT hm => ?_, ?_⟩
        · rw [cend h m hT hm, if_neg (show ¬ nI X.length ≤ (60 : Int32) from nI_ge (a := 60) (by omega) (by omega))]
          rfl
        · have e60 : p = 60 := by omega
          have := bad p (by omega) (by omega) (fun h hM => M_act0 hM hX (by omega) (fun y => absurd y c0))
          rw [e60] at this ⊢
          exact this
end
