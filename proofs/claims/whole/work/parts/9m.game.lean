/-! acts: the doing -/
def cAc : List Nat := [7, 10, 94, 95, 96, 97, 98, 99]
def mAc : List Nat := 50 :: 1024 :: mR
theorem paidAll_le (ρ : sRu) (B : sBd) (h8 : bN B ≤ 8) (n : Nat) : paidAll ρ B n ≤ n * 160 := by
  unfold paidAll
  refine fb_sm_bound (fun k _ => ?_)
  have : fb_sm (paidN ρ (qdn ρ B k)) (bN B) ≤ bN B * 20 := fb_sm_bound (fun i _ => by
    unfold paidN
    split
    · omega
    · exact dueN_le _ _ _)
  omega
theorem sam_evm {B : sBd} {p s : Nat} : sam B (mvB B p s) := ⟨mvB_N B p s, fun j _ => by rw [mvB_S]⟩
theorem sam_trans {A B C : sBd} (h1 : sam A B) (h2 : sam B C) : sam A C := ⟨h2.1.trans h1.1, fun j hj => (h2.2 j (by rw [h1.1]; exact hj)).trans (h1.2 j hj)⟩
section
variable {X : List Nat} {p : Nat} {B : sBd} {ρ : sRu}
/-- an act, by both: refused, or done -/
theorem act_spec (hX : rp_X X 60) (hp : p < X.length) (hp2 : p ≤ 60) (a5 : actN (X.getD p 0) ≠ 5) (ok : ∀ j, j < (shp (X.getD p 0)).length → okS X p (X.getD p 0) j) (hW : WF B) :
    ((∀ h, TXc h X → RS h 94 B → ∃ r, r < 0 ∧ fB_doAct (nI p) h = some (r, h)) ∧ ∀ h n, n ≤ 60 → actE h n (actT X p) → RM h 50 B → fM_act (nI (4 * n)) h = some (false, h)) ∨
    ∃ B', WF B' ∧ sam B B' ∧ (∀ h, TXc h X → RS h 94 B → RuC h 5 ρ → ∃ r h', 0 ≤ r ∧ fB_doAct (nI p) h = some (r, h') ∧ RS h' 94 B' ∧ Ag cAc h h') ∧ ∀ h n, n ≤ 60 → actE h n (actT X p) → RM h 50 B → RuM h ρ → ∃ h', fM_act (nI (4 * n)) h = some (true, h') ∧ RM h' 50 B' ∧ Ag mAc h h' := by
  have h8 := hW.1
  have lx := hX.1
  have at0 : ∀ h, TXc h X → fT_at (nI p) h = some (nI (X.getD p 0)) := fun h hT => at_any hT hX.1 hX.2.1 (by omega)
  have p1 : nI p + 1 = nI (p + 1) := nI_add _ 1
  have p2 : nI p + 2 = nI (p + 2) := nI_add _ 2
  have p3 : nI p + 3 = nI (p + 3) := nI_add _ 3
  have d0 : ∀ {i}, i < (shp (X.getD p 0)).length → (shp (X.getD p 0)).getD i 0 = 48 → 48 ≤ X.getD (p + 1 + i) 0 ∧ X.getD (p + 1 + i) 0 ≤ 57 := fun {i} hi e => by
    have := ((ok_d hX e).mp (ok i hi)).2
    unfold sgIn at this
    omega
  -- the model's row
  have mo : ∀ h n, n ≤ 60 → rb_hI h 62 (4 * n) = nI (X.getD p 0) → fM_act (nI (4 * n)) h = if nI (X.getD p 0) = 47 then some (true, rb_sI h 50 24 (1 - rb_hI h 50 24)) else if nI (X.getD p 0) = 103 then (fM_refusesGift (rb_hI h 62 (4 * n + 1)) (rb_hI h 62 (4 * n + 2)) (rb_hI h 62 (4 * n + 3)) h).bind (fun u5 => if 0 ≤ u5 then (fM_goGift (rb_hI h 62 (4 * n + 1)) (rb_hI h 62 (4 * n + 2)) (rb_hI h 62 (4 * n + 3)) h).bind fun u8 => some (true, u8) else some (false, h)) else if nI (X.getD p 0) = 109 then (fM_refusesMove 50 (rb_hI h 62 (4 * n + 1)) (rb_hI h 62 (4 * n + 2)) h).bind (fun u10 => if 0 ≤ u10 then (fM_goMove 50 (rb_hI h 62 (4 * n + 1)) (rb_hI h 62 (4 * n + 2)) h).bind fun u12 => some (true, u12.2) else some (false, h)) else if nI (X.getD p 0) = 110 then (fM_goQuarters 50 (rb_hI h 62 (4 * n + 1)) h).bind (fun u14 => some (true, u14.2)) else if fM_isWage (rb_hI h 62 (4 * n + 1)) (rb_hI h 62 (4 * n + 2)) = true then (fM_goWages (rb_hI h 62 (4 * n + 1)) (rb_hI h 62 (4 * n + 2)) h).bind (fun u18 => some (true, u18.2)) else some (false, h) := fun h n hn e => by
    have e1 : nI (4 * n) + 1 = nI (4 * n + 1) := nI_add _ 1
    have e2 : nI (4 * n) + 2 = nI (4 * n + 2) := nI_add _ 2
    have e3 : nI (4 * n) + 3 = nI (4 * n + 3) := nI_add _ 3
    unfold fM_act fM_act_0
    simp only [e1, e2, e3, if_neg (oob_n (show 4 * n < 320 by omega) (by omega)), if_neg (oob_n (show 4 * n + 1 < 320 by omega) (by omega)), if_neg (oob_n (show 4 * n + 2 < 320 by omega) (by omega)), if_neg (oob_n (show 4 * n + 3 < 320 by omega) (by omega)), cl_n (show 4 * n < 2 ^ 31 by omega), cl_n (show 4 * n + 1 < 2 ^ 31 by omega), cl_n (show 4 * n + 2 < 2 ^ 31 by omega), cl_n (show 4 * n + 3 < 2 ^ 31 by omega), e]
  have cl : ∀ h, TXc h X → fB_doAct (nI p) h = if nI (X.getD p 0) = 103 then (fT_digitAt (nI (p + 1)) h).bind (fun u3 => (fT_digitAt (nI (p + 2)) h).bind fun u5 => (fT_numberAt (nI (p + 3)) h).bind fun u7 => (fB_hand u3 u5 u7 h).bind fun u9 => some (u9.1, u9.2)) else if nI (X.getD p 0) = 109 then (fT_digitAt (nI (p + 1)) h).bind (fun u11 => (fT_squareAt (nI (p + 2)) h).bind fun u13 => (fB_makeMove u11 u13 h).bind fun u15 => some (u15.1, u15.2)) else if nI (X.getD p 0) = 110 then (fT_digitAt (nI (p + 1)) h).bind (fun u17 => (fS_live 94 5 u17 h).bind fun u19 => some (u19.1, u19.2)) else if nI (X.getD p 0) = 119 then (fT_digitAt (nI (p + 1)) h).bind (fun u21 => (fT_digitAt (nI (p + 2)) h).bind fun u23 => (fB_payWages u21 u23 h).bind fun u25 => some (u25.1, u25.2)) else some ((fB_turnOver h).1, (fB_turnOver h).2) := fun h hT => by
    unfold fB_doAct fB_doAct_0
    rw [at0 h hT, Option.bind_some, p1, p2, p3]
    rfl
  have e1 : p + 1 + 0 = p + 1 := rfl
  have e2 : p + 1 + 1 = p + 2 := rfl
  have e3 : p + 1 + 2 = p + 3 := rfl
  have e4 : p + 1 + 3 = p + 4 := rfl
  rcases actN_5.mp a5 with z | z | z | z | z
  · -- m
    rw [z] at ok d0 mo cl
    have b1 := d0 (i := 0) (by decide) (by decide)
    have b2 := ((ok_a (i := 1) hX (by decide)).mp (ok 1 (by decide))).2
    have b3 := ((ok_1 (i := 2) hX (by decide)).mp (ok 2 (by decide))).2
    have hs : (X.getD (p + 2) 0 - 97) + 5 * (X.getD (p + 3) 0 - 49) < 25 := by
      unfold sgIn at b2 b3
      rw [e2] at b2
      rw [e3] at b3
      omega
    have cl' : ∀ h, TXc h X → fB_doAct (nI p) h = (fB_makeMove (nI (X.getD (p + 1) 0 - 48)) (nI ((X.getD (p + 2) 0 - 97) + 5 * (X.getD (p + 3) 0 - 49))) h).bind fun u15 => some (u15.1, u15.2) := fun h hT => by
      rw [cl h hT, if_neg (by decide), if_pos (by decide), digitAt_n (p := p + 1) hT hX.1 hX.2.1 (by omega) b1.1, Option.bind_some, squareAt_n (p := p + 2) hT hX.1 hX.2.1 (by omega) b2.1 b3.1, Option.bind_some]
    have mo' : ∀ h n, n ≤ 60 → actE h n (actT X p) → fM_act (nI (4 * n)) h = (fM_refusesMove 50 (nI (X.getD (p + 1) 0 - 48)) (nI ((X.getD (p + 2) 0 - 97) + 5 * (X.getD (p + 3) 0 - 49))) h).bind (fun u10 => if 0 ≤ u10 then (fM_goMove 50 (nI (X.getD (p + 1) 0 - 48)) (nI ((X.getD (p + 2) 0 - 97) + 5 * (X.getD (p + 3) 0 - 49))) h).bind fun u12 => some (true, u12.2) else some (false, h)) := fun h n hn hE => by
      unfold actE actT at hE
      rw [z, if_pos rfl] at hE
      have q1 := hE.2.1 (show (109 : Nat) ≠ 47 by decide)
      have q2 := hE.2.2.1 (show (109 : Nat) ≠ 47 by decide) (show (109 : Nat) ≠ 110 by decide)
      dsimp only at q1 q2
      rw [mo h n hn hE.1, if_neg (by decide), if_neg (by decide), if_pos (by decide), q1, q2]
    generalize (X.getD (p + 2) 0 - 97) + 5 * (X.getD (p + 3) 0 - 49) = s at hs cl' mo'
    generalize X.getD (p + 1) 0 - 48 = a at cl' mo'
    rcases sq_or (nI a) (bN B) with ⟨i, hi, e⟩ | hx
    · rw [e] at cl' mo'
      by_cases m0 : mvA B i s = 0
      · refine Or.inr ⟨mvB B i s, mvB_WF hW hi hs (canM_ne hW hi hs (mvA_can m0)), sam_evm, fun h hT hR hU => ?_, fun h n hn hE hR hU => ?_⟩
        · obtain ⟨h', r1, r2, r3⟩ := (C_makeMove hR hW hi hs).1 m0
          have hu := mv1_U hW hi (canM_ne hW hi hs (mvA_can m0))
          refine ⟨nI (mvU B i s), h', nI_pos' (by unfold mvU; omega), ?_, r2, AgS (by decide) r3⟩
          rw [cl' h hT, r1]
          rfl
        · obtain ⟨h', r1, r2, r3⟩ := M_goMove hR hW hi hs (canM_ne hW hi hs (mvA_can m0)) (by decide) (by decide)
          refine ⟨h', ?_, r2, AgS (by decide) r3⟩
          rw [mo' h n hn hE, M_refuses hR hW hi hs, Option.bind_some, m0, if_pos (by decide), r1]
          rfl
      · refine Or.inl ⟨fun h hT hR => ⟨mvA B i s, mvA_neg m0, ?_⟩, fun h n hn hE hR => ?_⟩
        · rw [cl' h hT, (C_makeMove hR hW hi hs).2 m0]
          rfl
        · rw [mo' h n hn hE, M_refuses hR hW hi hs, Option.bind_some, if_neg (Int32.not_le.mpr (mvA_neg m0))]
    · refine Or.inl ⟨fun h hT hR => ⟨-1, by decide, ?_⟩, fun h n hn hE hR => ?_⟩
      · rw [cl' h hT, C_makeMove_no hR hW (Or.inl hx)]
        rfl
      · rw [mo' h n hn hE, M_refuses_no hR hW (Or.inl hx), Option.bind_some, if_neg (by decide)]
  · -- n
    rw [z] at ok d0 mo cl
    have b1 := d0 (i := 0) (by decide) (by decide)
    rw [e1] at b1
    have a9 : X.getD (p + 1) 0 - 48 ≤ 9 := by omega
    refine Or.inr ⟨qdn ρ B (X.getD (p + 1) 0 - 48), qdn_WF hW _, ⟨qdn_N _ _ _, fun j _ => by rw [qdn_S]⟩, fun h hT hR hU => ?_, fun h n hn hE hR hU => ?_⟩
    · obtain ⟨h', r1, r2, r3⟩ := S_live hR hW hU (by decide) (by decide) (by omega) (n := X.getD (p + 1) 0 - 48) (by omega)
      have pl := paidAll_le ρ B h8 (X.getD (p + 1) 0 - 48)
      refine ⟨_, h', nI_pos' (show paidAll ρ B (X.getD (p + 1) 0 - 48) < 2 ^ 31 by omega), ?_, r2, AgS (by decide) r3⟩
      rw [cl h hT, if_neg (by decide), if_neg (by decide), if_pos (by decide), digitAt_n (p := p + 1) hT hX.1 hX.2.1 (by omega) b1.1, Option.bind_some, r1]
      rfl
    · obtain ⟨h', r1, r2, r3, r4⟩ := M_goQuarters hR hW hU (by unfold mA; omega) (n := X.getD (p + 1) 0 - 48) (by omega)
      refine ⟨h', ?_, r2, r4⟩
      unfold actE actT at hE
      rw [z] at hE
      have q1 := hE.2.1 (show (110 : Nat) ≠ 47 by decide)
      dsimp only at q1
      rw [mo h n hn hE.1, if_neg (by decide), if_neg (by decide), if_neg (by decide), if_pos (by decide), q1, r1]
      rfl
  · -- /
    rw [z] at mo cl
    refine Or.inr ⟨tnB B, tnB_WF hW, ⟨rfl, fun _ _ => rfl⟩, fun h hT hR hU => ?_, fun h n hn hE hR hU => ?_⟩
    · obtain ⟨r1, r2, r3⟩ := C_turn hR hW
      refine ⟨nI (1 - bT B), _, nI_pos' (by omega), ?_, r2, AgS (by decide) r3⟩
      rw [cl h hT, if_neg (by decide), if_neg (by decide), if_neg (by decide), if_neg (by decide), r1]
    · obtain ⟨r1, r2⟩ := M_turn hR hW
      refine ⟨_, ?_, r1, AgS (by decide) r2⟩
      unfold actE actT at hE
      rw [z] at hE
      rw [mo h n hn hE.1, if_pos (by decide), hR.2.1, nI_sub1 hW.2.1]
  · -- g
    rw [z] at ok d0 mo cl
    have b1 := d0 (i := 0) (by decide) (by decide)
    have b2 := d0 (i := 1) (by decide) (by decide)
    have b3 := d0 (i := 2) (by decide) (by decide)
    have b4 := d0 (i := 3) (by decide) (by decide)
    have cl' : ∀ h, TXc h X → fB_doAct (nI p) h = (fB_hand (nI (X.getD (p + 1) 0 - 48)) (nI (X.getD (p + 2) 0 - 48)) (nI (10 * (X.getD (p + 3) 0 - 48) + (X.getD (p + 4) 0 - 48))) h).bind fun u9 => some (u9.1, u9.2) := fun h hT => by
      rw [cl h hT, if_pos (by decide), digitAt_n (p := p + 1) hT hX.1 hX.2.1 (by omega) b1.1, Option.bind_some, digitAt_n (p := p + 2) hT hX.1 hX.2.1 (by omega) b2.1, Option.bind_some, numberAt_n (p := p + 3) hT hX.1 hX.2.1 (by omega) b3.1 b4.1, Option.bind_some]
    have mo' : ∀ h n, n ≤ 60 → actE h n (actT X p) → fM_act (nI (4 * n)) h = (fM_refusesGift (nI (X.getD (p + 1) 0 - 48)) (nI (X.getD (p + 2) 0 - 48)) (nI (10 * (X.getD (p + 3) 0 - 48) + (X.getD (p + 4) 0 - 48))) h).bind (fun u5 => if 0 ≤ u5 then (fM_goGift (nI (X.getD (p + 1) 0 - 48)) (nI (X.getD (p + 2) 0 - 48)) (nI (10 * (X.getD (p + 3) 0 - 48) + (X.getD (p + 4) 0 - 48))) h).bind fun u8 => some (true, u8) else some (false, h)) := fun h n hn hE => by
      unfold actE actT at hE
      rw [z, if_neg (by decide)] at hE
      have q1 := hE.2.1 (show (103 : Nat) ≠ 47 by decide)
      have q2 := hE.2.2.1 (show (103 : Nat) ≠ 47 by decide) (show (103 : Nat) ≠ 110 by decide)
      have q3 := hE.2.2.2 rfl
      dsimp only at q1 q2 q3
      rw [mo h n hn hE.1, if_neg (by decide), if_pos (by decide), q1, q2, q3]
    rcases gift_spec hW (nI (X.getD (p + 1) 0 - 48)) (nI (X.getD (p + 2) 0 - 48)) (nI (10 * (X.getD (p + 3) 0 - 48) + (X.getD (p + 4) 0 - 48))) with ⟨r, r0, c, m⟩ | ⟨i, j, k, hi, hj, -, hk, hu, hk2, c, m⟩
    · refine Or.inl ⟨fun h hT hR => ⟨r, r0, ?_⟩, fun h n hn hE hR => ?_⟩
      · rw [cl' h hT, c h hR]
        rfl
      · rw [mo' h n hn hE, m h hR, Option.bind_some, if_neg (Int32.not_le.mpr r0)]
    · refine Or.inr ⟨gvB B i j k, gvB_WF hW hi hu, ⟨rfl, fun _ _ => rfl⟩, fun h hT hR hU => ?_, fun h n hn hE hR hU => ?_⟩
      · obtain ⟨h', r1, r2, r3⟩ := c h hR
        have := (hW.2.2.1 i hi).2.2.2
        refine ⟨_, h', nI_pos' (show bU B i - k < 2 ^ 31 by omega), ?_, r2, AgS (by decide) r3⟩
        rw [cl' h hT, r1]
        rfl
      · obtain ⟨m1, h', r1, r2, r3, -⟩ := m h hR
        refine ⟨h', ?_, r2, AgS (by decide) r3⟩
        rw [mo' h n hn hE, m1, Option.bind_some, if_pos (by decide), r1]
        rfl
  · -- w
    rw [z] at ok d0 mo cl
    have b1 := d0 (i := 0) (by decide) (by decide)
    have b2 := d0 (i := 1) (by decide) (by decide)
    have cl' : ∀ h, TXc h X → fB_doAct (nI p) h = (fB_payWages (nI (X.getD (p + 1) 0 - 48)) (nI (X.getD (p + 2) 0 - 48)) h).bind fun u9 => some (u9.1, u9.2) := fun h hT => by
      rw [cl h hT, if_neg (by decide), if_neg (by decide), if_neg (by decide), if_pos (by decide), digitAt_n (p := p + 1) hT hX.1 hX.2.1 (by omega) b1.1, Option.bind_some, digitAt_n (p := p + 2) hT hX.1 hX.2.1 (by omega) b2.1, Option.bind_some]
    have mo' : ∀ h n, n ≤ 60 → actE h n (actT X p) → fM_act (nI (4 * n)) h = if fM_isWage (nI (X.getD (p + 1) 0 - 48)) (nI (X.getD (p + 2) 0 - 48)) = true then (fM_goWages (nI (X.getD (p + 1) 0 - 48)) (nI (X.getD (p + 2) 0 - 48)) h).bind (fun u18 => some (true, u18.2)) else some (false, h) := fun h n hn hE => by
      unfold actE actT at hE
      rw [z, if_neg (by decide)] at hE
      have q1 := hE.2.1 (show (119 : Nat) ≠ 47 by decide)
      have q2 := hE.2.2.1 (show (119 : Nat) ≠ 47 by decide) (show (119 : Nat) ≠ 110 by decide)
      dsimp only at q1 q2
      rw [mo h n hn hE.1, if_neg (by decide), if_neg (by decide), if_neg (by decide), if_neg (by decide), q1, q2]
    rcases wage_spec (nI (X.getD (p + 1) 0 - 48)) (nI (X.getD (p + 2) 0 - 48)) with ⟨c, m⟩ | ⟨t, k, ht, hk1, hk, ex, ey, m⟩
    · refine Or.inl ⟨fun h hT hR => ⟨-1, by decide, ?_⟩, fun h n hn hE hR => ?_⟩
      · rw [cl' h hT, c h]
        rfl
      · rw [mo' h n hn hE, m, if_neg (by decide)]
    · rw [ex, ey] at cl' mo' m
      refine Or.inr ⟨wgB B t k, wgB_WF hW t k, ⟨rfl, fun _ _ => rfl⟩, fun h hT hR hU => ?_, fun h n hn hE hR hU => ?_⟩
      · obtain ⟨h', r1, r2, r3⟩ := C_wages hR hW ht hk1 hk
        have hu := fb_ct_le (wgP B t) (bN B)
        refine ⟨_, h', nI_pos' (show fb_ct (wgP B t) (bN B) < 2 ^ 31 by omega), ?_, r2, AgS (by decide) r3⟩
        rw [cl' h hT, r1]
        rfl
      · obtain ⟨h', r1, r2, r3⟩ := M_wages hR hW ht hk
        refine ⟨h', ?_, r2, AgS (by decide) r3⟩
        rw [mo' h n hn hE, m, if_pos rfl, r1]
        rfl
end
