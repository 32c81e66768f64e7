/-! game -/
section
variable {X : List Nat} {ρ : sRu}
theorem g81 (hX : rp_X X 60) {p : Nat} (hp : p ≤ 60) (a5 : actN (X.getD p 0) ≠ 5) {h : rb_H} (hT : TXc h X) (v3 : Int32) (x y : Nat) : fB_game_81l40 v3 (nI p) (nI x) (nI y) h = some (.inl (nI (y + x), v3, nI (p + 1 + (shp (X.getD p 0)).length), h)) := by
  obtain ⟨l1, l2, -⟩ := shp_len a5
  unfold fB_game_81l40
  rw [at_any hT hX.1 hX.2.1 (by omega), Option.bind_some, l1, Option.bind_some, nI_add, show (1 : Int32) + nI (shp (X.getD p 0)).length = nI (1 + (shp (X.getD p 0)).length) from nI_add 1 _, nI_add, show p + (1 + (shp (X.getD p 0)).length) = p + 1 + (shp (X.getD p 0)).length by omega]
/-- the acts done: k of them -/
theorem gm_do (hX : rp_X X 60) (hx : X.length ≤ 60) (N : Nat) : ∀ (L : List sAc) (p n : Nat) (B : sBd), isA X p L → n + L.length = N → N ≤ 60 → WF B → ∃ k B', n ≤ k ∧ k ≤ N ∧ WF B' ∧ sam B B' ∧
    (∀ h m, TXc h X → RS h 94 B → RuC h 5 ρ → L.length + 1 < m → ∃ h', rb_iter m (fun s => fB_game_40b s.1 s.2.1 s.2.2.1 s.2.2.2) (nI n, (0 : Int32), nI p, h) = some (nI k, (if k < N then 1 else 0), h') ∧ RS h' 94 B' ∧ Ag cAc h h') ∧
    ∀ h m, actsE h n L → RM h 50 B → RuM h ρ → L.length + 1 < m → ∃ h', rb_iter m (fun s => fM_game_72b (nI N) s.1 s.2) (nI n, h) = some (nI k, h') ∧ RM h' 50 B' ∧ Ag mAc h h'
  | [], p, n, B, hA, hn, hN, hW => by
    have hA : p = X.length := hA
    simp only [List.length_nil] at hn
    refine ⟨n, B, Nat.le_refl _, by omega, hW, ⟨rfl, fun _ _ => rfl⟩, fun h m hT hR hU hm => ?_, fun h m hE hR hU hm => ?_⟩
    · obtain ⟨m, rfl⟩ : ∃ k, m = k + 1 := ⟨m - 1, by omega⟩
      refine ⟨h, ?_, hR, Ag_refl _ _⟩
      rw [if_neg (by omega)]
      refine rb_iter_inr ?_
      unfold fB_game_40b
      rw [hT.1, hA, if_pos (nI_le (Nat.le_refl _) (by omega))]
    · obtain ⟨m, rfl⟩ : ∃ k, m = k + 1 := ⟨m - 1, by omega⟩
      refine ⟨h, rb_iter_inr ?_, hR, Ag_refl _ _⟩
      unfold fM_game_72b
      rw [if_pos (nI_le (by omega) (by omega))]
  | A :: L, p, n, B, hA, hn, hN, hW => by
    obtain ⟨a1, a5, a3, ok, eA, hA'⟩ := hA
    simp only [List.length_cons] at hn
    rcases act_spec (ρ := ρ) hX a1 (by omega) a5 ok hW with ⟨cr, mr⟩ | ⟨B1, hW1, hs1, cd, md⟩
    · refine ⟨n, B, Nat.le_refl _, by omega, hW, ⟨rfl, fun _ _ => rfl⟩, fun h m hT hR hU hm => ?_, fun h m hE hR hU hm => ?_⟩
      · obtain ⟨m, rfl⟩ : ∃ k, m = k + 2 := ⟨m - 2, by omega⟩
        obtain ⟨r, r0, e⟩ := cr h hT hR
        refine ⟨h, ?_, hR, Ag_refl _ _⟩
        rw [if_pos (by omega), rb_iter_inl (s' := (nI (n + 0), 1, nI (p + 1 + (shp (X.getD p 0)).length), h)) ?_]
        · refine rb_iter_inr ?_
          unfold fB_game_40b
          dsimp only
          rw [hT.1]
          by_cases z : nI X.length ≤ nI (p + 1 + (shp (X.getD p 0)).length)
          · rw [if_pos z]
            rfl
          · rw [if_neg z, if_neg (by decide)]
            rfl
        · unfold fB_game_40b fB_game_70l40
          dsimp only
          rw [hT.1, if_neg (nI_ge a1 (by omega)), if_pos rfl, e, Option.bind_some]
          dsimp only
          rw [if_neg (Int32.not_le.mpr r0), if_neg (by decide)]
          exact g81 hX (by omega) a5 hT 1 0 n
      · obtain ⟨m, rfl⟩ : ∃ k, m = k + 1 := ⟨m - 1, by omega⟩
        refine ⟨h, rb_iter_inr ?_, hR, Ag_refl _ _⟩
        have e1 := hE.1
        rw [eA] at e1
        unfold fM_game_72b
        dsimp only
        rw [if_neg (nI_ge (show n < N by omega) (by omega)), n4, mr h n (by omega) e1 hR, Option.bind_some]
        rfl
    · obtain ⟨k, B', k1, k2, hW', hs', ci, mi⟩ := gm_do hX hx N L (p + 1 + (shp (X.getD p 0)).length) (n + 1) B1 hA' (by omega) hN hW1
      refine ⟨k, B', by omega, k2, hW', sam_trans hs1 hs', fun h m hT hR hU hm => ?_, fun h m hE hR hU hm => ?_⟩
      · obtain ⟨m, rfl⟩ : ∃ k, m = k + 1 := ⟨m - 1, by omega⟩
        simp only [List.length_cons] at hm
        obtain ⟨r, h1, r0, e, r2, r3⟩ := cd h hT hR hU
        have hT1 := TXc_ag hT r3 (by decide)
        obtain ⟨h2, f1, f2, f3⟩ := ci h1 m hT1 r2 (RuCn_ag hU r3 (by decide)) (by omega)
        refine ⟨h2, ?_, f2, Ag_trans r3 f3⟩
        rw [rb_iter_inl (s' := (nI (n + 1), 0, nI (p + 1 + (shp (X.getD p 0)).length), h1)) ?_]
        · exact f1
        · unfold fB_game_40b fB_game_70l40
          dsimp only
          rw [hT.1, if_neg (nI_ge a1 (by omega)), if_pos rfl, e, Option.bind_some]
          dsimp only
          rw [if_pos r0, if_pos rfl]
          exact g81 hX (by omega) a5 hT1 0 1 n
      · obtain ⟨m, rfl⟩ : ∃ k, m = k + 1 := ⟨m - 1, by omega⟩
        simp only [List.length_cons] at hm
        have e1 := hE.1
        rw [eA] at e1
        obtain ⟨h1, r1, r2, r3⟩ := md h n (by omega) e1 hR hU
        obtain ⟨h2, f1, f2, f3⟩ := mi h1 m (actsE_ag r3 (by decide) L (n + 1) hE.2) r2 (RuMn_ag hU r3 (by decide)) (by omega)
        refine ⟨h2, ?_, f2, Ag_trans r3 f3⟩
        rw [rb_iter_inl (s' := (nI (n + 1), h1)) ?_]
        · exact f1
        · unfold fM_game_72b
          dsimp only
          rw [if_neg (nI_ge (show n < N by omega) (by omega)), n4, r1, Option.bind_some, if_pos rfl, nI_1]
theorem min60 {a : Nat} (h : a < 2 ^ 31) : rb_min (nI a) 60 = nI (min a 60) := by
  unfold rb_min
  by_cases c : 60 < a
  · rw [if_pos (show (60 : Int32) < nI a from nI_lt (a := 60) c h), Nat.min_eq_right (by omega)]; rfl
  · rw [if_neg (show ¬ (60 : Int32) < nI a from fun z => c ((nI_ltI (a := 60) (by omega) h).mp z)), Nat.min_eq_left (by omega)]
theorem C_gmF {h : rb_H} (hT : TXc h X) (hX : rp_X X 60) : fB_gameFault h = (rb_iter rb_fuel (fun s => fB_gameFault_15b (nI (min X.length 60)) s h) (nI 0)).bind (gmK X) := by
  have := hX.1
  unfold fB_gameFault fB_gameFault_0 gmK
  rw [hT.1, min60 (by omega)]
  rfl
end
theorem M_keep59 {h : rb_H} {B : sBd} (hR : RM h 50 B) (hW : WF B) : ∃ h', fM_lay 50 59 0 h = some h' ∧ RM h' 59 B ∧ Ag [59] h h' := M_layB (a := 50) (b := 59) hR hW (by decide) (by decide) (by rfl)
theorem O_game : rb_op fB_game fM_game := by
  intro σ hσ
  have hW := hσ.1
  have hX := rp_X_of hσ (show 60 ≤ 80 by omega)
  have hl := hX.1
  rcases gm_read hX (min (zX σ).length 60) 0 0 (by omega) (by omega) (by omega) with ⟨q, hq, hC, hM⟩ | ⟨L, hx, hA, hC, hM⟩
  · refine ⟨-1 - nI q, yX σ [], WS_cut hσ, fun h hI => ?_, fun h0 hI0 => ?_⟩
    · obtain ⟨d1, d2, d3⟩ := C_empty hI.2.2.1 hl
      refine ⟨_, ?_, IC_text hI d3 (by decide +kernel) d2, AgS (by decide +kernel) d3⟩
      unfold fB_game fB_game_0
      rw [C_gmF hI.2.2.1 hX, hC h rb_fuel hI.2.2.1 (by rw [rb_fuel_eq]; omega), Option.bind_some, if_neg (nI_pos (by omega)), d1]
      rfl
    · have hI := IM_thr hI0
      obtain ⟨h1, b1, b2, b3, b4, b5⟩ := rp_begin hI.2.2.1 hl 60
      obtain ⟨x, h2, h3, d1, d2, d3, d4⟩ := hM h1 rb_fuel b2 (by rw [rb_fuel_eq]; omega)
      have A : Ag (62 :: rdL) (rb_sF h0 49 7 0) h3 := Ag_trans (AgS (by decide) b5) (AgS (by decide) d4)
      refine ⟨h3, ?_, IM_text hI A (by decide) (TXm_e b3 d4 (by decide)), Ag_trans (AgS (by decide +kernel) (thr_ag h0)) (AgS (by decide +kernel) A)⟩
      unfold fM_game fM_game_0
      simp only [rb_lt]
      rw [show fM_beginText 60 (rb_sF h0 49 7 0) = h1 from b1, show rb_iter rb_fuel (fun s => fM_game_13b s.1 s.2) ((0 : Int32), h1) = _ from d1, Option.bind_some, d2]
      dsimp only
      rw [if_neg (by decide), d3]
  · have lA := isA_len L 0 hA
    obtain ⟨k, B, -, kN, hWB, hs, ci, mi⟩ := gm_do (ρ := zR σ) hX hx L.length L 0 0 (zB σ) hA (by omega) (by omega) hW
    refine ⟨nI k, yT (yP (yB (yX σ []) B) (if 0 < k then pushP (zP σ) (zB σ) else zP σ)) [(if k < L.length then 1 else 0), (nI (stN B)).toInt64], ?_, fun h hI => ?_, fun h0 hI0 => ?_⟩
    · by_cases z : 0 < k
      · rw [if_pos z]
        exact WS_push (WS_cut hσ) hWB hs (by simp)
      · rw [if_neg z]
        exact WS_brp (WS_cut hσ) hWB hs ⟨hσ.2.2.2.1.1, hσ.2.2.2.1.2⟩ (by simp)
    · have hT := hI.2.2.1
      obtain ⟨h1, a1, a2, a3, a4⟩ := C_before hσ hI
      obtain ⟨h2, c1, c2, c3⟩ := ci h1 rb_fuel a3.2.2.1 a3.1 a3.2.1 (by rw [rb_fuel_eq]; omega)
      obtain ⟨d1, d2, d3⟩ := C_empty (TXc_ag a3.2.2.1 c3 (by decide)) hl
      have P2 := PAc_ag (PAc_ag a3.2.2.2.2.1 c3 (by decide +kernel)) d3 (by decide +kernel)
      have R2 : RS (rb_sF h2 1 1 0) 94 B := RSn_ag c2 d3 (by decide)
      have K2 : RS (rb_sF h2 1 1 0) 100 (zB σ) := RS_ag (RS_ag a2 c3 (by decide) (fun _ hx => NL_at (A := sIds 100) (by decide) hx)) d3 (by decide) (fun _ hx => NL_at (A := sIds 100) (by decide) hx)
      have T2 := d2
      have A2 : Ag (1 :: fC) h (rb_sF h2 1 1 0) := Ag_trans (Ag_trans (AgS (by decide +kernel) a4) (AgS (by decide +kernel) c3)) (AgS (by decide +kernel) d3)
      have tail : ∀ g, RS g 94 B → PAc g (if 0 < k then pushP (zP σ) (zB σ) else zP σ) → TXc g [] → Ag (1 :: fC) h g → ∃ h', fB_game_132 (nI k) (if k < L.length then 1 else 0) g = some (nI k, h') ∧ IC h' (yT (yP (yB (yX σ []) B) (if 0 < k then pushP (zP σ) (zB σ) else zP σ)) [(if k < L.length then 1 else 0), (nI (stN B)).toInt64]) ∧ Ag cC h h' := fun g Rg Pg Tg Ag1 => by
        obtain ⟨g2, t1, t2, t3⟩ := C_tell1 (if k < L.length then 1 else 0) (nI (stN B)).toInt64 g
        have Aall : Ag (1 :: fC) h g2 := Ag_trans Ag1 (AgS (by decide +kernel) t3)
        refine ⟨g2, ?_, ⟨RSn_ag Rg t3 (by decide), RuCn_ag hI.2.1 Aall (by decide +kernel), TXc_ag Tg t3 (by decide), t2, PAc_ag Pg t3 (by decide +kernel), KPc_ag hI.2.2.2.2.2.1 Aall (by decide +kernel), FAc_ag hI.2.2.2.2.2.2.1 Aall (by decide) (by decide +kernel), FAc_ag hI.2.2.2.2.2.2.2 Aall (by decide) (by decide +kernel)⟩, AgS (by decide +kernel) Aall⟩
        unfold fB_game_132 fB_game_142
        rw [S_standing Rg hWB, Option.bind_some, Option.bind_some]
        by_cases z : k < L.length
        · simp only [if_pos z] at t1 ⊢
          rw [if_neg (by decide), t1]
          rfl
        · simp only [if_neg z] at t1 ⊢
          rw [if_pos trivial, t1]
          rfl
      have flow : fB_game h = if nI k ≤ 0 then fB_game_132 (nI k) (if k < L.length then 1 else 0) (rb_sF h2 1 1 0) else (fP_add 100 (rb_sF h2 1 1 0)).bind fun u21 => fB_game_132 (nI k) (if k < L.length then 1 else 0) u21 := by
        unfold fB_game fB_game_0
        rw [C_gmF hT hX, hC h rb_fuel hT (by rw [rb_fuel_eq]; omega), Option.bind_some, if_pos (by decide), a1, Option.bind_some, show rb_iter rb_fuel (fun s => fB_game_40b s.1 s.2.1 s.2.2.1 s.2.2.2) ((0 : Int32), (0 : Int32), (0 : Int32), h1) = _ from c1, Option.bind_some, d1]
        rfl
      by_cases z : 0 < k
      · obtain ⟨h4, p1, p2, p3⟩ := C_past100 (h := rb_sF h2 1 1 0) hσ P2 K2
        rw [flow, if_neg (show ¬ nI k ≤ (0 : Int32) from nI_ge (a := 0) z (by omega)), p1, Option.bind_some]
        refine tail h4 (RSn_ag R2 p3 (by decide +kernel)) (by rw [if_pos z]; exact p2) (TXc_ag T2 p3 (by decide +kernel)) (Ag_trans A2 (AgS (by decide +kernel) p3))
      · rw [flow, if_pos (show nI k ≤ (0 : Int32) from nI_le (b := 0) (by omega) (by omega))]
        exact tail _ R2 (by rw [if_neg z]; exact P2) T2 A2
    · have hI := IM_thr hI0
      obtain ⟨h1, b1, b2, b3, b4, b5⟩ := rp_begin hI.2.2.1 hl 60
      obtain ⟨h2, d1, d2, d3, d4, d5⟩ := hM h1 rb_fuel b2 (by rw [rb_fuel_eq]; omega)
      have A2 : Ag (62 :: rdL) (rb_sF h0 49 7 0) h2 := Ag_trans (AgS (by decide) b5) (AgS (by decide) d4)
      have R2 := RMn_ag hI.1 A2 (by decide)
      have U2 := RuMn_ag hI.2.1 A2 (by decide)
      obtain ⟨h3, e1, e2, e3⟩ := M_keep59 R2 hW
      obtain ⟨h4, f1, f2, f3⟩ := mi h3 rb_fuel (actsE_ag e3 (by decide) L 0 d3) (RMn_ag R2 e3 (by decide)) (RuMn_ag U2 e3 (by decide)) (by rw [rb_fuel_eq]; omega)
      have A4 : Ag (59 :: 62 :: (mAc ++ rdL)) (rb_sF h0 49 7 0) h4 := Ag_trans (Ag_trans (AgS (by decide) A2) (AgS (by decide) e3)) (AgS (by decide) f3)
      have R59 : RM h4 59 (zB σ) := RM_ag e2 f3 (fun _ hx => NL_at (A := [1002, 59, 51]) (by decide) hx)
      have P4 := PAm_ag hI.2.2.2.2.1 A4 (by decide)
      have T4 := TXm_e (TXm_e (TXm_e b3 d4 (by decide)) e3 (by decide)) f3 (by decide)
      have tail : ∀ g, RM g 50 B → PAm g (if 0 < k then pushP (zP σ) (zB σ) else zP σ) → TXm g [] → Ag (1020 :: 58 :: 59 :: 62 :: (mAc ++ rdL)) (rb_sF h0 49 7 0) g → ∃ h', fM_game_105 (nI L.length) (nI k) g = some (nI k, h') ∧ IM h' (yT (yP (yB (yX σ []) B) (if 0 < k then pushP (zP σ) (zB σ) else zP σ)) [(if k < L.length then 1 else 0), (nI (stN B)).toInt64]) ∧ Ag cM h0 h' := fun g Rg Pg Tg Ag1 => by
        obtain ⟨g2, t1, t2, t3⟩ := M_tellA (if k < L.length then 1 else 0) g
        obtain ⟨g3, w1, w2, w3⟩ := M_tell t2 (by simp) (nI (stN B)).toInt64
        have Ax : Ag [1006, 53] g g3 := Ag_trans t3 w3
        have Aall : Ag (1006 :: 53 :: 1020 :: 58 :: 59 :: 62 :: (mAc ++ rdL)) (rb_sF h0 49 7 0) g3 := Ag_trans (AgS (by decide) Ag1) (AgS (by decide) Ax)
        have i121 : fM_game_121 (nI k) (if k < L.length then 1 else 0) (rb_sF g 49 6 0) = some (nI k, g3) := by
          unfold fM_game_121
          rw [t1, Option.bind_some, M_inMany (RMn_ag Rg t3 (by decide)) hWB, Option.bind_some]
          show (fM_tell (nI (stN B)).toInt64 g2).bind _ = _
          rw [w1]
          rfl
        refine ⟨g3, ?_, ⟨RMn_ag Rg Ax (by decide), RuMn_ag hI.2.1 Aall (by decide), TXm_e Tg Ax (by decide), w2, PAm_ag Pg Ax (by decide), ?_, FAm_ag hI.2.2.2.2.2.2.1 Aall (by decide), FAm_ag hI.2.2.2.2.2.2.2.1 Aall (by decide), RX_ag hI.2.2.2.2.2.2.2.2 Aall (by decide)⟩, Ag_trans (AgS (by decide +kernel) (thr_ag h0)) (AgS (by decide +kernel) Aall)⟩
        · unfold fM_game_105
          by_cases z : k < L.length
          · rw [if_neg (nI_ge z (by omega))]
            rw [if_pos z] at i121
            exact i121
          · rw [if_pos (nI_le (by omega) (by omega))]
            rw [if_neg z] at i121
            exact i121
        · show KPm g3 (zK σ) (bN B)
          rw [hs.1]
          exact KPm_ag hI.2.2.2.2.2.1 Aall (by decide)
      have flow : fM_game h0 = if nI k ≤ 0 then fM_game_105 (nI L.length) (nI k) h4 else (fM_remember 59 h4).bind fun u23 => fM_game_105 (nI L.length) (nI k) u23 := by
        unfold fM_game fM_game_0
        simp only [rb_lt]
        rw [show fM_beginText 60 (rb_sF h0 49 7 0) = h1 from b1, show rb_iter rb_fuel (fun s => fM_game_13b s.1 s.2) ((0 : Int32), h1) = _ from d1, Option.bind_some, d2]
        dsimp only
        rw [if_pos rfl, e1, Option.bind_some, Nat.zero_add, show rb_iter rb_fuel (fun s => fM_game_72b (nI L.length) s.1 s.2) ((0 : Int32), h3) = _ from f1, Option.bind_some]
      by_cases z : 0 < k
      · obtain ⟨h5, p1, p2, p3⟩ := M_past P4 hσ.2.2.2.1.1 (past8 hσ) (RM_iff.mp R59).2 hW.1 (by decide) (by decide)
        rw [flow, if_neg (show ¬ nI k ≤ (0 : Int32) from nI_ge (a := 0) z (by omega)), p1, Option.bind_some]
        exact tail h5 (RMn_ag f2 p3 (by decide)) (by rw [if_pos z]; exact p2) (TXm_e T4 p3 (by decide)) (Ag_trans (AgS (by decide) A4) (AgS (by decide) p3))
      · rw [flow, if_pos (show nI k ≤ (0 : Int32) from nI_le (b := 0) (by omega) (by omega))]
        exact tail _ f2 (by rw [if_neg z]; exact P4) T4 (AgS (by decide) A4)
