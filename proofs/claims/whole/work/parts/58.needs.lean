/-! needs -/
def puB (B : sBd) (p v : Nat) : sBd := (bK B, bS B, bP B, fun i => if i = p then v else bU B i, bN B, bT B, bQ B, bM B)
theorem puB_WF {B : sBd} (hW : WF B) {p v : Nat} (hv : v ≤ 99) : WF (puB B p v) := by
  refine ⟨hW.1, hW.2.1, fun i hi => ?_, hW.2.2.2⟩
  obtain ⟨a, b, c, d⟩ := hW.2.2.1 i hi
  refine ⟨a, b, c, ?_⟩
  show (if i = p then v else bU B i) ≤ 99
  split <;> omega
theorem puB_due (ρ : sRu) (B : sBd) (p v i : Nat) : dueN ρ (puB B p v) i = dueN ρ B i := rfl
theorem puB_puB (B : sBd) (p v w : Nat) : puB (puB B p v) p w = puB B p w := by
  unfold puB
  refine congrArg (fun f => (_, _, _, f, _, _, _, _)) (funext fun i => ?_)
  show (if i = p then w else if i = p then v else bU B i) = _
  by_cases e : i = p
  · rw [if_pos e, if_pos e]
  · rw [if_neg e, if_neg e, if_neg e]
/-- the days to come, the piece's purse full ahead of each -/
def Dn (ρ : sRu) (B : sBd) (p : Nat) : Nat → sBd
  | 0 => puB B p 99
  | d + 1 => puB (qdB ρ (Dn ρ B p d)) p 99
def nd (ρ : sRu) (B : sBd) (p n : Nat) : Nat := fb_sm (fun d => dueN ρ (Dn ρ B p d) p) n
theorem Dn_WF {ρ : sRu} {B : sBd} (hW : WF B) (p : Nat) : ∀ d, WF (Dn ρ B p d)
  | 0 => puB_WF hW (by omega)
  | d + 1 => puB_WF (qdB_WF (Dn_WF hW p d)) (by omega)
theorem Dn_N (ρ : sRu) (B : sBd) (p : Nat) : ∀ d, bN (Dn ρ B p d) = bN B
  | 0 => rfl
  | d + 1 => Dn_N ρ B p d
theorem Dn_U (ρ : sRu) (B : sBd) (p : Nat) : ∀ d, bU (Dn ρ B p d) p = 99 := by
  intro d
  cases d with
  | zero => show (if p = p then 99 else _) = 99; rw [if_pos rfl]
  | succ d => show (if p = p then 99 else _) = 99; rw [if_pos rfl]
theorem Dn_99 (ρ : sRu) (B : sBd) (p d : Nat) : puB (Dn ρ B p d) p 99 = Dn ρ B p d := by
  cases d with
  | zero => exact puB_puB B p 99 99
  | succ d => exact puB_puB _ p 99 99
theorem Dn_P (ρ : sRu) (B : sBd) (p : Nat) : ∀ d, bP (Dn ρ B p d) p = bP B p
  | 0 => rfl
  | d + 1 => by
    show (if goesOutB ρ (Dn ρ B p d) p = true then 25 else bP (Dn ρ B p d) p) = bP B p
    have : goesOutB ρ (Dn ρ B p d) p = false := by
      unfold goesOutB
      rw [Dn_U]
      have := dueN_le ρ (Dn ρ B p d) p
      simp; omega
    rw [this, if_neg (by decide)]
    exact Dn_P ρ B p d
/-- a day with a purse that lasts -/
theorem qd_pu {ρ : sRu} {D : sBd} {p x : Nat} (hU : bU D p = 99) (hx : dueN ρ D p ≤ x) : qdB ρ (puB D p x) = puB (puB (qdB ρ D) p 99) p (x - dueN ρ D p) := by
  have h20 := dueN_le ρ D p
  have g : ∀ i, i ≠ p → goesOutB ρ (puB D p x) i = goesOutB ρ D i := by
    intro i hi
    show decide ((if i = p then x else bU D i) < dueN ρ D i) = decide (bU D i < dueN ρ D i)
    rw [if_neg hi]
  have gp : goesOutB ρ (puB D p x) p = false := by
    show decide ((if p = p then x else bU D p) < dueN ρ D p) = false
    rw [if_pos rfl]; simp; omega
  have gp2 : goesOutB ρ D p = false := by
    unfold goesOutB
    rw [hU]; simp; omega
  rw [puB_puB]
  have e1 : (fun i => if goesOutB ρ (puB D p x) i = true then 25 else bP (puB D p x) i) = fun i => if goesOutB ρ D i = true then 25 else bP D i := by
    funext i
    by_cases e : i = p
    · rw [e, gp, gp2]; rfl
    · rw [g i e]; rfl
  have e2 : (fun i => if goesOutB ρ (puB D p x) i = true then 0 else bU (puB D p x) i - dueN ρ (puB D p x) i) = fun i => if i = p then x - dueN ρ D p else (if goesOutB ρ D i = true then 0 else bU D i - dueN ρ D i) := by
    funext i
    show (if goesOutB ρ (puB D p x) i = true then 0 else (if i = p then x else bU D i) - dueN ρ D i) = _
    by_cases e : i = p
    · rw [e, gp, if_neg (by decide), if_pos rfl, if_pos rfl]
    · rw [g i e, if_neg e, if_neg e]
  unfold qdB
  rw [e1, e2]
  rfl
theorem qdn_pu {ρ : sRu} {B : sBd} {p v : Nat} : ∀ d, nd ρ B p d ≤ v → qdn ρ (puB B p v) d = puB (Dn ρ B p d) p (v - nd ρ B p d)
  | 0, _ => by
    show puB B p v = puB (puB B p 99) p (v - 0)
    rw [puB_puB]; rfl
  | d + 1, h => by
    have h' : nd ρ B p d + dueN ρ (Dn ρ B p d) p ≤ v := h
    show qdB ρ (qdn ρ (puB B p v) d) = _
    rw [qdn_pu d (by omega), qd_pu (Dn_U ρ B p d) (by omega)]
    show puB (Dn ρ B p (d + 1)) p _ = puB (Dn ρ B p (d + 1)) p (v - (nd ρ B p d + dueN ρ (Dn ρ B p d) p))
    congr 1
    omega
theorem out_stays {ρ : sRu} {B : sBd} {p d : Nat} (h : bP (qdn ρ B d) p = 25) : ∀ k, bP (qdn ρ B (d + k)) p = 25
  | 0 => h
  | k + 1 => by
    show (if goesOutB ρ (qdn ρ B (d + k)) p = true then 25 else bP (qdn ρ B (d + k)) p) = 25
    split
    · rfl
    · exact out_stays h k
theorem nd_mono (ρ : sRu) (B : sBd) (p : Nat) (a b : Nat) : nd ρ B p a ≤ nd ρ B p (a + b) := fb_sm_mono _ a b
/-- who has less than what comes goes out -/
theorem out_less {ρ : sRu} {B : sBd} {p v : Nat} : ∀ n, v < nd ρ B p n → bP (qdn ρ (puB B p v) n) p = 25
  | 0, h => absurd h (Nat.not_lt_zero _)
  | n + 1, h => by
    by_cases q : v < nd ρ B p n
    · exact out_stays (out_less n q) 1
    · have h' : v < nd ρ B p n + dueN ρ (Dn ρ B p n) p := h
      show (if goesOutB ρ (qdn ρ (puB B p v) n) p = true then 25 else bP (qdn ρ (puB B p v) n) p) = 25
      rw [qdn_pu n (by omega), if_pos]
      show decide ((if p = p then v - nd ρ B p n else bU (Dn ρ B p n) p) < dueN ρ (Dn ρ B p n) p) = true
      rw [if_pos rfl]
      exact decide_eq_true (by omega)
theorem in_more {ρ : sRu} {B : sBd} {p v n : Nat} (h : nd ρ B p n ≤ v) : bP (qdn ρ (puB B p v) n) p = bP B p := by
  rw [qdn_pu n h]
  exact Dn_P ρ B p n
theorem nd_le (ρ : sRu) (B : sBd) (p n : Nat) : nd ρ B p n ≤ n * 20 := fb_sm_bound (fun _ _ => dueN_le _ _ _)
theorem RS_pu {h : rb_H} {o : Nat} {B : sBd} {p v : Nat} (hR : RS h o B) (hp : p < bN B) : RS (rb_sI h (o + 4) p (nI v)) o (puB B p v) := by
  refine ⟨hR.1, hR.2.1, hR.2.2.1, hR.2.2.2.1, fun i hi => ?_⟩
  have q := hR.2.2.2.2 i hi
  rw [hI_sI, hI_sI, hI_sI, hI_sI, if_neg (show ¬ (o + 1 = o + 4 ∧ i = p) by omega), if_neg (show ¬ (o + 2 = o + 4 ∧ i = p) by omega), if_neg (show ¬ (o + 3 = o + 4 ∧ i = p) by omega)]
  refine ⟨q.1, q.2.1, q.2.2.1, ?_⟩
  show _ = nI (if i = p then v else bU B i)
  by_cases e : i = p
  · rw [if_pos ⟨rfl, e⟩, if_pos e]
  · rw [if_neg (fun z => e z.2), if_neg e]; exact q.2.2.2
theorem RM_pu {h : rb_H} {a : Nat} {B : sBd} {p v : Nat} (hR : RM h a B) (h8 : bN B ≤ 8) (hp : p < bN B) (ha : a ≠ 51) (hal : a < 1000) : RM (rb_sI h a (16 + p) (nI v)) a (puB B p v) := by
  refine RM_set hR rfl rfl ha (Ag_sI (by simp) (Ag_refl _ _)) hal ?_ ?_ ?_ (fun i hi => ?_)
  · rw [hI_sI, if_neg (by omega)]; exact hR.2.1
  · rw [hI_sI, if_neg (by omega)]; exact hR.2.2.1
  · rw [hI_sI, if_neg (by omega)]; exact hR.2.2.2.1
  · have q := hR.2.2.2.2 i hi
    rw [hI_sI, hI_sI, hI_sI, if_neg (show ¬ (a = a ∧ i = 16 + p) by omega), if_neg (show ¬ (a = a ∧ 8 + i = 16 + p) by omega)]
    refine ⟨q.1, q.2.2.1, ?_⟩
    show _ = nI (if i = p then v else bU B i)
    by_cases e : i = p
    · rw [if_pos ⟨rfl, by omega⟩, if_pos e]
    · rw [if_neg (by omega), if_neg e]; exact q.2.2.2
theorem C_needs {h : rb_H} {B : sBd} {ρ : sRu} (hR : RS h 106 B) (hW : WF B) (hU : RuC h 5 ρ) {p n : Nat} (hp : p < bN B) (hn : n ≤ 20) : ∃ x, rb_iter rb_fuel (fun s => fB_needs_54b (nI p) (nI n) s.1 s.2.1 s.2.2) ((0 : Int32), (0 : Int32), h) = some x ∧ (x.1 = nI (nd ρ B p n) ∧ Ag [7, 10, 106, 109, 110, 111] h x.2) := by
  have h8 := hW.1
  refine rb_runP (fun k s => s.1 = nI (nd ρ B p k) ∧ s.2.1 = nI k ∧ (∃ T, RS s.2.2 106 T ∧ bN T = bN B ∧ puB T p 99 = Dn ρ B p k) ∧ RuC s.2.2 5 ρ ∧ Ag [7, 10, 106, 109, 110, 111] h s.2.2) _ n ⟨rfl, rfl, ⟨B, hR, rfl, rfl⟩, hU, Ag_refl _ _⟩ (by omega) ?_ ?_
  · rintro k ⟨v, w, h1⟩ hk ⟨e1, e2, ⟨T, hT, hTN, hTD⟩, hU1, hA⟩
    dsimp only at e1 e2 hT hU1 hA ⊢
    subst e1
    subst e2
    have hpT : p < bN T := by rw [hTN]; exact hp
    have R1 : RS (rb_sI h1 110 p 99) 106 (Dn ρ B p k) := by
      have := RS_pu (v := 99) hT hpT
      rw [hTD] at this
      exact this
    have hpD : p < bN (Dn ρ B p k) := by rw [Dn_N]; exact hp
    have A1 : Ag [7, 10, 106, 109, 110, 111] h1 (rb_sI h1 110 p 99) := Ag_sI (by decide) (Ag_refl _ _)
    have U1 := RuCn_ag hU1 A1 (by decide)
    obtain ⟨h2, d1, d2⟩ := S_due R1 (Dn_WF hW p k) U1 (by decide) hpD
    have R2 : RS h2 106 (Dn ρ B p k) := RS_ag R1 d2 (by decide) (fun _ hx => NL_at (A := sIds 106) (by decide) hx)
    have U2 := RuCn_ag U1 d2 (by decide)
    obtain ⟨h3, q1, q2, q3⟩ := S_quarterDay R2 (Dn_WF hW p k) U2 (by decide) (by decide) (by omega)
    unfold fB_needs_54b
    rw [if_neg (nI_ge hk (show n < 2 ^ 31 by omega)), if_neg (oob_n (show p < 8 by omega) (by omega)), cl_n (by omega), d1]
    simp only [Option.bind_some, q1, nI_1, nI_add]
    exact ⟨_, rfl, rfl, rfl, ⟨qdB ρ (Dn ρ B p k), q2, Dn_N ρ B p k, rfl⟩, RuCn_ag U2 q3 (by decide), Ag_trans hA (Ag_trans A1 (Ag_trans (AgS (by decide) d2) q3))⟩
  · rintro ⟨v, w, h1⟩ ⟨e1, e2, -, -, hA⟩
    dsimp only at e1 e2 hA ⊢
    subst e2
    unfold fB_needs_54b
    rw [if_pos (nI_le (Nat.le_refl _) (by omega))]
    exact ⟨_, rfl, e1, hA⟩
theorem M_need1 {h : rb_H} {B : sBd} {ρ : sRu} (hR : RM h 50 B) (hW : WF B) (hU : RuM h ρ) {p n v : Nat} (hp : p < bN B) (hn : n ≤ 20) (hv : v ≤ 99) (ho : bP B p ≠ 25) : ∃ h', fM_needs_41b (nI p) (nI n) (nI v) h = some (if v < nd ρ B p n then .inl (nI (v + 1), h') else .inr (.inl (nI v, h'))) ∧ Ag (60 :: 1024 :: mR) h h' := by
  have h8 := hW.1
  obtain ⟨h1, a1, a2, a3⟩ := M_layB (a := 50) (b := 60) hR hW (by decide) (by decide) (by rfl)
  have R1 := RM_pu (v := v) a2 h8 hp (by decide) (by decide)
  have A1 : Ag (60 :: 1024 :: mR) h (rb_sI h1 60 (16 + p) (nI v)) := Ag_sI (by decide) (AgS (by decide) a3)
  have U1 : RuM (rb_sI h1 60 (16 + p) (nI v)) ρ := RuMn_ag hU A1 (by decide)
  obtain ⟨h2, b1, b2, b3, b4⟩ := M_goQuarters R1 (puB_WF hW hv) U1 (by unfold mA; omega) (n := n) (by omega)
  have hpE : p < bN (qdn ρ (puB B p v) n) := by rw [qdn_N]; exact hp
  unfold fM_needs_41b
  rw [if_neg (show ¬ (99 : Int32) < nI v from nI_nlt (a := 99) hv (by omega)), a1]
  simp only [Option.bind_some, nI16, if_neg (oob_n (show 16 + p < 27 by omega) (by omega)), cl_n (show 16 + p < 2 ^ 31 by omega), b1, M_isOut b2 (qdn_WF (puB_WF hW hv) n) hpE, decide_eq_true_eq, nI_1]
  refine ⟨h2, ?_, Ag_trans A1 b4⟩
  by_cases c : v < nd ρ B p n
  · rw [if_pos c, if_pos (out_less n c)]
  · rw [if_neg c, if_neg (by rw [in_more (by omega)]; exact ho)]
set_option maxHeartbeats 4000000 in
theorem O_needs (x y : Int32) : rb_op (fB_needs x y) (fM_needs x y) := by
  refine rb_op_of (fun σ hσ => ?_)
  have hW := hσ.1
  have h8 := hW.1
  rcases sq_or x (bN (zB σ)) with ⟨p, hp, rfl⟩ | hx
  · by_cases hy1 : y < 1
    · refine at_refuse hσ (-1) (fun h hI => ?_) (fun h hI => ?_)
      · unfold fB_needs fB_needs_0
        rw [S_has_y hI.1 hW hp, if_pos rfl, if_pos hy1]
      · unfold fM_needs fM_needs_0
        rw [M_isPiece_y hI.1 hW hp, if_pos rfl]
        unfold fM_in fM_in_0
        rw [if_pos hy1]
        rfl
    · by_cases hy2 : y ≤ 20
      · have hin : fM_in y 1 20 = true := by
          unfold fM_in fM_in_0
          rw [if_neg hy1, if_neg (Int32.not_lt.mpr hy2)]
        obtain ⟨n, hn, rfl⟩ := nI_of2 (n := 20) (show (20 : Int32).toInt = (20 : Nat) by decide) (fun z => hy1 (Int32.lt_trans z (by decide))) hy2
        by_cases ho : bP (zB σ) p = 25
        · refine at_refuse hσ (-3) (fun h hI => ?_) (fun h hI => ?_)
          · unfold fB_needs fB_needs_0
            rw [S_has_y hI.1 hW hp, if_pos rfl, if_neg hy1, if_pos hy2, S_stands_y hI.1 hW hp]
            simp [ho]
          · unfold fM_needs fM_needs_0
            rw [M_isPiece_y hI.1 hW hp, if_pos rfl, hin, if_pos rfl, M_isOut hI.1 hW hp]
            simp [ho]
        · have hnd := nd_le (zR σ) (zB σ) p n
          generalize hN : nd (zR σ) (zB σ) p n = N at hnd
          have hlt : N < 2 ^ 31 := by omega
          refine at_quiet hσ (if N ≤ 99 then nI N else -2) (fun h hI => ?_) (fun h0 h e hI => ?_)
          · obtain ⟨h1, a1, a2, a3, a5, a4⟩ := C_trial hσ hI
            obtain ⟨x, m1, m2, m3⟩ := C_needs a2 hW a3 hp hn
            rw [hN] at m2
            have el : nI N ≤ (99 : Int32) ↔ N ≤ 99 := nI_leI (b := 99) hlt (by omega)
            unfold fB_needs fB_needs_0
            rw [S_has_y hI.1 hW hp, if_pos rfl, if_neg hy1, if_pos hy2, S_stands_y hI.1 hW hp]
            simp only [Option.bind_some, decide_eq_true_eq, if_pos ho, a1, m1, m2, el]
            refine ⟨x.2, ?_, Ag_trans a4 (AgS (by decide +kernel) m3)⟩
            by_cases c : N ≤ 99
            · rw [if_pos c, if_pos c]
            · rw [if_neg c, if_neg c]
          · have step : ∀ (k : Nat) (s : Int32 × rb_H), k ≤ 99 → (s.1 = nI k ∧ Ag (60 :: 1024 :: mR) h s.2) → ∃ h', fM_needs_41b (nI p) (nI n) s.1 s.2 = some (if k < N then .inl (nI (k + 1), h') else .inr (.inl (nI k, h'))) ∧ Ag (60 :: 1024 :: mR) h h' := by
              rintro k ⟨v, h1⟩ hk ⟨e1, hA⟩
              dsimp only at e1 hA ⊢
              subst e1
              obtain ⟨h', z1, z2⟩ := M_need1 (RMn_ag hI.1 hA (by decide)) hW (RuMn_ag hI.2.1 hA (by decide)) hp hn hk ho
              rw [hN] at z1
              exact ⟨h', z1, Ag_trans hA z2⟩
            unfold fM_needs fM_needs_0
            rw [← e, M_isPiece_y hI.1 hW hp, if_pos rfl, hin, if_pos rfl, M_isOut hI.1 hW hp]
            simp only [Option.bind_some, decide_eq_true_eq, if_neg ho]
            by_cases c : N ≤ 99
            · have loop : ∃ x, rb_iter rb_fuel (fun s => fM_needs_41b (nI p) (nI n) s.1 s.2) ((0 : Int32), h) = some x ∧ ∃ y, x = Sum.inl y ∧ (y.1 = nI N ∧ Ag (60 :: 1024 :: mR) h y.2) := by
                refine rb_runP (fun k s => s.1 = nI k ∧ Ag (60 :: 1024 :: mR) h s.2) _ N ⟨rfl, Ag_refl _ _⟩ (by omega) ?_ ?_
                · intro k s hk i
                  obtain ⟨h', z1, z2⟩ := step k s (by omega) i
                  rw [if_pos hk] at z1
                  exact ⟨_, z1, rfl, z2⟩
                · intro s i
                  obtain ⟨h', z1, z2⟩ := step N s c i
                  rw [if_neg (Nat.lt_irrefl N)] at z1
                  exact ⟨_, z1, _, rfl, rfl, z2⟩
              obtain ⟨x, m1, y, rfl, m2, m3⟩ := loop
              rw [m1, if_pos c]
              exact ⟨y.2, by simp only [Option.bind_some, Sum.elim_inl, m2], AgS (by decide +kernel) m3⟩
            · have loop : ∃ x, rb_iter rb_fuel (fun s => fM_needs_41b (nI p) (nI n) s.1 s.2) ((0 : Int32), h) = some x ∧ ∃ y, x = Sum.inr y ∧ Ag (60 :: 1024 :: mR) h y := by
                refine rb_runP (fun k s => s.1 = nI k ∧ Ag (60 :: 1024 :: mR) h s.2) _ 100 ⟨rfl, Ag_refl _ _⟩ (by omega) ?_ ?_
                · intro k s hk i
                  obtain ⟨h', z1, z2⟩ := step k s (by omega) i
                  rw [if_pos (show k < N by omega)] at z1
                  exact ⟨_, z1, rfl, z2⟩
                · rintro ⟨v, h1⟩ ⟨e1, hA⟩
                  dsimp only at e1 hA ⊢
                  subst e1
                  unfold fM_needs_41b
                  rw [if_pos (by decide)]
                  exact ⟨_, rfl, _, rfl, hA⟩
              obtain ⟨x, m1, y, rfl, m3⟩ := loop
              rw [m1, if_neg c]
              exact ⟨y, rfl, AgS (by decide +kernel) m3⟩
      · refine at_refuse hσ (-1) (fun h hI => ?_) (fun h hI => ?_)
        · unfold fB_needs fB_needs_0
          rw [S_has_y hI.1 hW hp, if_pos rfl, if_neg hy1, if_neg hy2]
        · unfold fM_needs fM_needs_0
          rw [M_isPiece_y hI.1 hW hp, if_pos rfl]
          unfold fM_in fM_in_0
          rw [if_neg hy1, if_pos (Int32.not_le.mp hy2)]
          rfl
  · refine at_refuse hσ (-1) (fun h hI => ?_) (fun h hI => ?_)
    · unfold fB_needs fB_needs_0
      rw [S_has_n hI.1 hW hx, if_neg (by decide)]
    · unfold fM_needs fM_needs_0
      rw [M_isPiece_n hI.1 hW hx, if_neg (by decide)]
