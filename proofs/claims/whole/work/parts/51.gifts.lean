/-! gifts, wages -/
def gvB (B : sBd) (p q k : Nat) : sBd := (bK B, bS B, bP B, fun i => if i = q then bU B q + k else if i = p then bU B p - k else bU B i, bN B, bT B, bQ B, bM B)
theorem gvB_WF {B : sBd} (hW : WF B) {p q k : Nat} (hp : p < bN B) (h1 : bU B q + k ≤ 99) : WF (gvB B p q k) := by
  refine ⟨hW.1, hW.2.1, fun i hi => ?_, hW.2.2.2⟩
  obtain ⟨a, b, c, d⟩ := hW.2.2.1 i hi
  have hp := (hW.2.2.1 p hp).2.2.2
  refine ⟨a, b, c, ?_⟩
  show (if i = q then bU B q + k else if i = p then bU B p - k else bU B i) ≤ 99
  split
  · omega
  · split <;> omega
theorem RS94 {h : rb_H} {B : sBd} (hR : RS h 94 B) {i : Nat} (hi : i < bN B) : rb_hI h 95 i = nI (bK B i) ∧ rb_hI h 96 i = nI (bS B i) ∧ rb_hI h 97 i = nI (bP B i) ∧ rb_hI h 98 i = nI (bU B i) := hR.2.2.2.2 i hi
/-- a gift is refused with r by both, or both do it -/
def giftS (B : sBd) (x y v : Int32) : Prop := (∃ r : Int32, r < 0 ∧ (∀ h, RS h 94 B → fB_hand x y v h = some (r, h)) ∧ ∀ h, RM h 50 B → fM_refusesGift x y v h = some r) ∨
  ∃ p q k, p < bN B ∧ q < bN B ∧ x = nI p ∧ k ≤ 99 ∧ bU B q + k ≤ 99 ∧ k ≤ bU B p ∧ (∀ h, RS h 94 B → ∃ h', fB_hand x y v h = some (nI (bU B p - k), h') ∧ RS h' 94 (gvB B p q k) ∧ Ag [98] h h') ∧ ∀ h, RM h 50 B → fM_refusesGift x y v h = some 0 ∧ ∃ h', fM_goGift x y v h = some h' ∧ RM h' 50 (gvB B p q k) ∧ Ag [50] h h' ∧ rb_hI h' 50 (16 + p) = nI (bU B p - k)
theorem gift_spec {B : sBd} (hW : WF B) (x y v : Int32) : giftS B x y v := by
  have h8 := hW.1
  rcases sq_or x (bN B) with ⟨p, hp, rfl⟩ | hx
  · rcases sq_or y (bN B) with ⟨q, hq, rfl⟩ | hy
    · have wp := hW.2.2.1 p hp
      have wq := hW.2.2.1 q hq
      have epq : nI p = nI q ↔ p = q := nI_eq (by omega) (by omega)
      by_cases hpq : p = q
      · refine Or.inl ⟨-1, by decide, fun h hR => ?_, fun h hR => ?_⟩
        · unfold fB_hand fB_hand_0
          simp only [S_has_y hR hW hp, S_has_y hR hW hq, if_true, epq, hpq]
        · unfold fM_refusesGift fM_refusesGift_0
          simp only [M_isPiece_y hR hW hp, M_isPiece_y hR hW hq, if_true, epq, hpq]
      · by_cases v1 : v < 1
        · refine Or.inl ⟨-1, by decide, fun h hR => ?_, fun h hR => ?_⟩
          · unfold fB_hand fB_hand_0
            simp only [S_has_y hR hW hp, S_has_y hR hW hq, if_true, epq, hpq, if_false, v1]
          · unfold fM_refusesGift fM_refusesGift_0 fM_in fM_in_0
            simp only [M_isPiece_y hR hW hp, M_isPiece_y hR hW hq, if_true, epq, hpq, if_false, v1]
            rfl
        · have v0 : ¬ v < 0 := fun z => v1 (Int32.lt_trans z (by decide))
          obtain ⟨k, hk, rfl⟩ := nI_of v0
          by_cases v99 : k ≤ 99
          · have w1 : nI k ≤ (99 : Int32) := nI_le (b := 99) v99 (by omega)
            have w2 : ¬ (99 : Int32) < nI k := Int32.not_lt.mpr w1
            have CM : ∀ h, RM h 50 B → fM_refusesGift (nI p) (nI q) (nI k) h = some (if bP B p = 25 then -2 else if bP B q = 25 then -2 else if k ≤ bU B p then (if bU B q + k ≤ 99 then 0 else -4) else -3) := by
              intro h hR
              have a := (hR.2.2.2.2 p hp).2.2.2
              have b := (hR.2.2.2.2 q hq).2.2.2
              have l1 : nI k ≤ nI (bU B p) ↔ k ≤ bU B p := nI_leI (by omega) (by omega)
              have l2 : nI (bU B q + k) ≤ (99 : Int32) ↔ bU B q + k ≤ 99 := nI_leI (b := 99) (by omega) (by omega)
              unfold fM_refusesGift fM_refusesGift_0 fM_in fM_in_0
              simp only [M_isPiece_y hR hW hp, M_isPiece_y hR hW hq, if_true, epq, hpq, if_false, v1, w2, M_isOut hR hW hp, M_isOut hR hW hq, Option.bind_some, decide_eq_true_eq, nI16, if_neg (oob_n (show 16 + p < 27 by omega) (by omega)), if_neg (oob_n (show 16 + q < 27 by omega) (by omega)), cl_n (show 16 + p < 2 ^ 31 by omega), cl_n (show 16 + q < 2 ^ 31 by omega), a, b, l1, l2, nI_add]
              split
              · rfl
              · split
                · rfl
                · split
                  · split <;> rfl
                  · rfl
            have CC : ∀ h, RS h 94 B → fB_hand (nI p) (nI q) (nI k) h = if bP B p = 25 then some (-2, h) else if bP B q = 25 then some (-2, h) else if k ≤ bU B p then (if bU B q + k ≤ 99 then some (nI (bU B p) - nI k, rb_sI (rb_sI h 98 p (nI (bU B p) - nI k)) 98 q (nI (bU B q + k))) else some (-4, h)) else some (-3, h) := by
              intro h hR
              have a := (RS94 hR hp).2.2.2
              have b := (RS94 hR hq).2.2.2
              have l1 : nI k ≤ nI (bU B p) ↔ k ≤ bU B p := nI_leI (by omega) (by omega)
              have l2 : nI (bU B q + k) ≤ (99 : Int32) ↔ bU B q + k ≤ 99 := nI_leI (b := 99) (by omega) (by omega)
              have hqp : ¬ q = p := fun z => hpq z.symm
              unfold fB_hand fB_hand_0
              simp only [S_has_y hR hW hp, S_has_y hR hW hq, if_true, epq, hpq, if_false, v1, w1, S_stands_y hR hW hp, S_stands_y hR hW hq, Option.bind_some, decide_eq_true_eq, if_neg (oob_n (show p < 8 by omega) (by omega)), if_neg (oob_n (show q < 8 by omega) (by omega)), cl_n (show p < 2 ^ 31 by omega), cl_n (show q < 2 ^ 31 by omega), a, b, l1, l2, nI_add, hI_sI, hqp, and_false, and_self]
              by_cases c1 : bP B p = 25
              · simp [c1]
              · by_cases c2 : bP B q = 25
                · simp [c1, c2]
                · simp [c1, c2]
            by_cases c1 : bP B p = 25
            · exact Or.inl ⟨-2, by decide, fun h hR => by rw [CC h hR, if_pos c1], fun h hR => by rw [CM h hR, if_pos c1]⟩
            · by_cases c2 : bP B q = 25
              · exact Or.inl ⟨-2, by decide, fun h hR => by rw [CC h hR, if_neg c1, if_pos c2], fun h hR => by rw [CM h hR, if_neg c1, if_pos c2]⟩
              · by_cases c3 : k ≤ bU B p
                · by_cases c4 : bU B q + k ≤ 99
                  · refine Or.inr ⟨p, q, k, hp, hq, rfl, v99, c4, c3, fun h hR => ?_, fun h hR => ⟨?_, ?_⟩⟩
                    · rw [CC h hR, if_neg c1, if_neg c2, if_pos c3, if_pos c4, nI_sub c3]
                      refine ⟨_, rfl, ⟨hR.1, hR.2.1, hR.2.2.1, hR.2.2.2.1, fun i hi => ?_⟩, Ag_sI (by simp) (Ag_sI (by simp) (Ag_refl _ _))⟩
                      have q5 := RS94 hR hi
                      refine ⟨q5.1, q5.2.1, q5.2.2.1, ?_⟩
                      show rb_hI (rb_sI (rb_sI h 98 p (nI (bU B p - k))) 98 q (nI (bU B q + k))) 98 i = nI (if i = q then bU B q + k else if i = p then bU B p - k else bU B i)
                      rw [hI_sI, hI_sI]
                      by_cases e : i = q
                      · rw [if_pos ⟨rfl, e⟩, if_pos e]
                      · rw [if_neg (fun z => e z.2), if_neg e]
                        by_cases e2 : i = p
                        · rw [if_pos ⟨rfl, e2⟩, if_pos e2]
                        · rw [if_neg (fun z => e2 z.2), if_neg e2]; exact q5.2.2.2
                    · rw [CM h hR, if_neg c1, if_neg c2, if_pos c3, if_pos c4]
                    · have a := (hR.2.2.2.2 p hp).2.2.2
                      have b := (hR.2.2.2.2 q hq).2.2.2
                      have A : Ag [50] h (rb_sI (rb_sI h 50 (16 + p) (nI (bU B p - k))) 50 (16 + q) (nI (bU B q + k))) := Ag_sI (by simp) (Ag_sI (by simp) (Ag_refl _ _))
                      have hb : rb_hI (rb_sI h 50 (16 + p) (nI (bU B p) - nI k)) 50 (16 + q) = nI (bU B q) := by rw [hI_sI, if_neg (by omega), b]
                      refine ⟨rb_sI (rb_sI h 50 (16 + p) (nI (bU B p - k))) 50 (16 + q) (nI (bU B q + k)), ?_, RM_set hR rfl rfl (by decide) A (by decide) ?_ ?_ ?_ (fun i hi => ?_), A, ?_⟩
                      · unfold fM_goGift fM_goGift_0
                        simp only [nI16, if_neg (oob_n (show 16 + p < 27 by omega) (by omega)), if_neg (oob_n (show 16 + q < 27 by omega) (by omega)), cl_n (show 16 + p < 2 ^ 31 by omega), cl_n (show 16 + q < 2 ^ 31 by omega), a, hb, nI_add]
                        rw [nI_sub c3]
                      · simp only [hI_sI]; rw [if_neg (by omega), if_neg (by omega)]; exact hR.2.1
                      · simp only [hI_sI]; rw [if_neg (by omega), if_neg (by omega)]; exact hR.2.2.1
                      · simp only [hI_sI]; rw [if_neg (by omega), if_neg (by omega)]; exact hR.2.2.2.1
                      · have q5 := hR.2.2.2.2 i hi
                        simp only [hI_sI, true_and]
                        refine ⟨?_, ?_, ?_⟩
                        · rw [if_neg (by omega), if_neg (by omega)]; exact q5.1
                        · rw [if_neg (by omega), if_neg (by omega)]; exact q5.2.2.1
                        · show _ = nI (if i = q then bU B q + k else if i = p then bU B p - k else bU B i)
                          by_cases e : i = q
                          · rw [if_pos (by omega), if_pos e]
                          · rw [if_neg (by omega), if_neg e]
                            by_cases e2 : i = p
                            · rw [if_pos (by omega), if_pos e2]
                            · rw [if_neg (by omega), if_neg e2]; exact q5.2.2.2
                      · rw [hI_sI, if_neg (by omega), hI_sI, if_pos ⟨rfl, rfl⟩]
                  · exact Or.inl ⟨-4, by decide, fun h hR => by rw [CC h hR, if_neg c1, if_neg c2, if_pos c3, if_neg c4], fun h hR => by rw [CM h hR, if_neg c1, if_neg c2, if_pos c3, if_neg c4]⟩
                · exact Or.inl ⟨-3, by decide, fun h hR => by rw [CC h hR, if_neg c1, if_neg c2, if_neg c3], fun h hR => by rw [CM h hR, if_neg c1, if_neg c2, if_neg c3]⟩
          · have w1 : ¬ nI k ≤ (99 : Int32) := nI_ge (a := 99) (by omega) hk
            have w2 : (99 : Int32) < nI k := Int32.not_le.mp w1
            refine Or.inl ⟨-1, by decide, fun h hR => ?_, fun h hR => ?_⟩
            · unfold fB_hand fB_hand_0
              simp only [S_has_y hR hW hp, S_has_y hR hW hq, if_true, epq, hpq, if_false, v1, w1]
            · unfold fM_refusesGift fM_refusesGift_0 fM_in fM_in_0
              simp only [M_isPiece_y hR hW hp, M_isPiece_y hR hW hq, if_true, epq, hpq, if_false, v1, w2]
              rfl
    · refine Or.inl ⟨-1, by decide, fun h hR => ?_, fun h hR => ?_⟩
      · unfold fB_hand fB_hand_0
        rw [S_has_y hR hW hp, if_pos rfl, S_has_n hR hW hy]
        rfl
      · unfold fM_refusesGift fM_refusesGift_0
        rw [M_isPiece_y hR hW hp, if_pos rfl, M_isPiece_n hR hW hy]
        rfl
  · refine Or.inl ⟨-1, by decide, fun h hR => ?_, fun h hR => ?_⟩
    · unfold fB_hand fB_hand_0
      rw [S_has_n hR hW hx]
      rfl
    · unfold fM_refusesGift fM_refusesGift_0
      rw [M_isPiece_n hR hW hx]
      rfl
theorem O_gives (x y v : Int32) : rb_op (fB_gives x y v) (fM_gives x y v) := by
  intro σ hσ
  have hW := hσ.1
  have h8 := hW.1
  rcases gift_spec hW x y v with ⟨r, hr, c, m⟩ | ⟨p, q, k, hp, hq, rfl, hk, hl, hl2, c, m⟩
  · refine ⟨r, σ, hσ, fun h hI => ?_, fun h hI => ?_⟩
    · obtain ⟨h', a1, a2, a3, a4⟩ := C_before hσ hI
      refine ⟨h', ?_, a3, AgS (by decide +kernel) a4⟩
      unfold fB_gives fB_gives_0
      simp only [a1, Option.bind_some, c h' a3.1]
      rw [if_pos hr]
    · refine ⟨_, ?_, M_ref hI⟩
      unfold fM_gives fM_gives_0
      rw [m _ (IM_thr hI).1]
      simp only [Option.bind_some]
      rw [if_neg (Int32.not_le.mpr hr)]
  · refine ⟨nI (bU (zB σ) p - k), yT (yP (yB σ (gvB (zB σ) p q k)) (pushP (zP σ) (zB σ))) (zT σ), WS_push hσ (gvB_WF hW hp hl) ⟨rfl, fun _ _ => rfl⟩ hσ.2.2.1, fun h hI => ?_, fun h0 hI0 => ?_⟩
    · obtain ⟨h1, a1, a2, a3, a4⟩ := C_before hσ hI
      obtain ⟨h2, b1, b2, b3⟩ := c h1 a3.1
      obtain ⟨h3, c1, c2, c3⟩ := C_past100 (h := h2) hσ (PAc_ag a3.2.2.2.2.1 b3 (by decide +kernel)) (RS_ag a2 b3 (by decide) (fun _ hx => NL_at (A := sIds 100) (by decide) hx))
      unfold fB_gives fB_gives_0
      have hu := (hW.2.2.1 p hp).2.2.2
      simp only [a1, Option.bind_some, b1, if_neg (nI_pos (show bU (zB σ) p - k < 2 ^ 31 by omega)), c1]
      exact ⟨h3, rfl, C_done hI (Ag_trans (fC0_fC a4) (Ag_trans (AgS (by decide +kernel) b3) (AgS (by decide +kernel) c3))) (RSn_ag b2 c3 (by decide +kernel)) c2 (RWc_ag (RWc_ag a3.2.2.2.1 b3 (by decide)) c3 (by decide +kernel))⟩
    · have hI := IM_thr hI0
      have hA0 := thr_ag' h0
      unfold fM_gives fM_gives_0
      generalize rb_sF h0 49 7 0 = h at hI hA0 ⊢
      obtain ⟨h1, a1, a2, a3⟩ := M_pastI hσ hI
      obtain ⟨b0, -⟩ := m h hI.1
      obtain ⟨-, h2, b1, b2, b3, b4⟩ := m h1 (RMn_ag hI.1 a3 (by decide))
      simp only [b0, Option.bind_some, a1, b1, nI16, if_neg (oob_n (show 16 + p < 27 by omega) (by omega)), cl_n (show 16 + p < 2 ^ 31 by omega), b4]
      rw [if_pos (by decide)]
      exact ⟨h2, rfl, M_done hI0 (Ag_trans hA0 (Ag_trans (AgS (by decide +kernel) a3) (AgS (by decide +kernel) b3))) b2 rfl (PAm_ag a2 b3 (by decide)) (RWm_ag (RWm_ag hI.2.2.2.1 a3 (by decide)) b3 (by decide))⟩
/-- who has wages -/
def wgP (B : sBd) (t i : Nat) : Bool := decide (bP B i ≠ 25) && decide (bS B i = t)
def wgB (B : sBd) (t k : Nat) : sBd := (bK B, bS B, bP B, fun i => if wgP B t i = true then min (bU B i + k) 99 else bU B i, bN B, bT B, bQ B, bM B)
theorem wgB_WF {B : sBd} (hW : WF B) (t k : Nat) : WF (wgB B t k) := by
  refine ⟨hW.1, hW.2.1, fun i hi => ?_, hW.2.2.2⟩
  obtain ⟨a, b, c, d⟩ := hW.2.2.1 i hi
  refine ⟨a, b, c, ?_⟩
  show (if wgP B t i = true then min (bU B i + k) 99 else bU B i) ≤ 99
  split <;> omega
theorem C_wages {h : rb_H} {B : sBd} (hR : RS h 94 B) (hW : WF B) {t k : Nat} (ht : t ≤ 1) (hk1 : 1 ≤ k) (hk : k ≤ 9) : ∃ h', fB_payWages (nI t) (nI k) h = some (nI (fb_ct (wgP B t) (bN B)), h') ∧ RS h' 94 (wgB B t k) ∧ Ag [98] h h' := by
  have h8 := hW.1
  have hside : fB_isSide (nI t) = true := by
    rcases (show t = 0 ∨ t = 1 by omega) with rfl | rfl <;> decide
  unfold fB_payWages fB_payWages_0
  rw [if_pos hside, if_neg (show ¬ nI k < 1 from nI_nlt (b := 1) hk1 (by omega)), if_pos (show nI k ≤ 9 from nI_le (b := 9) hk (by omega))]
  have main : ∃ x, rb_iter rb_fuel (fun s => fB_payWages_25b (nI t) (nI k) s.1 s.2.1 s.2.2) ((0 : Int32), (0 : Int32), h) = some x ∧ (x.1 = nI (fb_ct (wgP B t) (bN B)) ∧ Ag [98] h x.2 ∧ ∀ i, i < bN B → rb_hI x.2 98 i = nI (bU (wgB B t k) i)) := by
    refine rb_runP (fun n s => s.1 = nI (fb_ct (wgP B t) n) ∧ s.2.1 = nI n ∧ Ag [98] h s.2.2 ∧ ∀ i, i < bN B → rb_hI s.2.2 98 i = nI (if i < n then bU (wgB B t k) i else bU B i)) _ (bN B) ⟨rfl, rfl, Ag_refl _ _, fun i hi => ?_⟩ (by omega) ?_ ?_
    · rw [if_neg (Nat.not_lt_zero _)]
      exact (RS94 hR hi).2.2.2
    · rintro n ⟨v, w, h1⟩ hn ⟨e1, e2, hA, hI⟩
      dsimp only at e1 e2 hA hI ⊢
      subst e1
      subst e2
      have hw := hW.2.2.1 n hn
      have f5 : rb_hF h1 94 5 = nI (bN B) := (AgF hA (by decide)).trans hR.1
      have hs : rb_hI h1 96 n = nI (bS B n) := (AgI hA (by decide) n).trans (RS94 hR hn).2.1
      have hu := hI n hn
      rw [if_neg (Nat.lt_irrefl n)] at hu
      have hst : fS_stands 94 (nI n) h1 = some (decide (bP B n ≠ 25)) := by
        have e1 : rb_hI h1 97 n = nI (bP B n) := (AgI hA (by decide) n).trans (RS94 hR hn).2.2.1
        have e2 : nI (bP B n) = (25 : Int32) ↔ bP B n = 25 := nI_eq (b := 25) (by omega) (by omega)
        have e3 : fS_has 94 (nI n) h1 = true := by
          unfold fS_has fS_has_0
          rw [f5, if_neg (nI_pos (by omega)), if_neg (nI_ge hn (by omega)), if_neg (show ¬ (8 : Int32) ≤ nI n from nI_ge (b := 8) (by omega) (by omega))]
        unfold fS_stands fS_stands_0
        rw [e3, if_pos rfl, if_neg (oob_n (show n < 8 by omega) (by omega)), cl_n (by omega)]
        show (if rb_hI h1 97 n = 25 then _ else _) = _
        rw [e1]
        simp only [e2]
        by_cases c : bP B n = 25 <;> simp [c]
      have et : nI (bS B n) = nI t ↔ bS B n = t := nI_eq (by omega) (by omega)
      have same : ∀ i, ¬ i = n → ((i < n + 1) = (i < n)) := fun i hi => propext (by omega)
      have stay : ¬ wgP B t n = true → ∀ i, i < bN B → rb_hI h1 98 i = nI (if i < n + 1 then bU (wgB B t k) i else bU B i) := by
        intro g i hi
        by_cases e : i = n
        · subst e
          rw [if_pos (Nat.lt_succ_self i), hu]
          show _ = nI (if wgP B t i = true then min (bU B i + k) 99 else bU B i)
          rw [if_neg g]
        · simp only [same i e]; exact hI i hi
      unfold fB_payWages_25b fB_payWages_93l25
      simp only [f5, if_neg (nI_ge hn (show bN B < 2 ^ 31 by omega)), hst, Option.bind_some, decide_eq_true_eq, if_neg (oob_n (show n < 8 by omega) (by omega)), cl_n (show n < 2 ^ 31 by omega), hs, et, hu, nI_1, nI_add, min99 (show bU B n + k < 2 ^ 31 by omega)]
      by_cases c1 : bP B n = 25
      · rw [if_neg (fun z => z c1)]
        have g : ¬ wgP B t n = true := by unfold wgP; simp [c1]
        refine ⟨_, rfl, ?_, rfl, hA, stay g⟩
        show nI _ = nI (_ + _)
        rw [if_neg g]; rfl
      · rw [if_pos c1]
        by_cases c2 : bS B n = t
        · have g : wgP B t n = true := by unfold wgP; simp [c1, c2]
          rw [if_pos c2]
          refine ⟨_, rfl, ?_, rfl, Ag_sI (by simp) hA, fun i hi => ?_⟩
          · show nI (_ + 1) = nI (_ + _)
            rw [if_pos g]
          · rw [hI_sI]
            by_cases e : i = n
            · rw [if_pos ⟨rfl, e⟩, e, if_pos (Nat.lt_succ_self n)]
              show _ = nI (if wgP B t n = true then min (bU B n + k) 99 else bU B n)
              rw [if_pos g]
            · rw [if_neg (fun z => e z.2)]; simp only [same i e]; exact hI i hi
        · have g : ¬ wgP B t n = true := by unfold wgP; simp [c2]
          rw [if_neg c2]
          refine ⟨_, rfl, ?_, rfl, hA, stay g⟩
          show nI _ = nI (_ + _)
          rw [if_neg g]; rfl
    · rintro ⟨v, w, h1⟩ ⟨e1, e2, hA, hI⟩
      dsimp only at e1 e2 hA hI ⊢
      subst e1
      subst e2
      have f5 : rb_hF h1 94 5 = nI (bN B) := (AgF hA (by decide)).trans hR.1
      unfold fB_payWages_25b
      rw [f5, if_pos (nI_le (Nat.le_refl _) (by omega))]
      refine ⟨_, rfl, rfl, hA, fun i hi => ?_⟩
      have := hI i hi
      rw [if_pos hi] at this
      exact this
  obtain ⟨x, m1, m2, m3, m4⟩ := main
  rw [m1]
  simp only [Option.bind_some, m2]
  refine ⟨_, rfl, ⟨(AgF m3 (by decide)).trans hR.1, (AgF m3 (by decide)).trans hR.2.1, (AgF m3 (by decide)).trans hR.2.2.1, (AgF m3 (by decide)).trans hR.2.2.2.1, fun i hi => ?_⟩, m3⟩
  have q := RS94 hR hi
  exact ⟨(AgI m3 (by decide) i).trans q.1, (AgI m3 (by decide) i).trans q.2.1, (AgI m3 (by decide) i).trans q.2.2.1, m4 i hi⟩
theorem M_wages {h : rb_H} {B : sBd} (hR : RM h 50 B) (hW : WF B) {t k : Nat} (ht : t ≤ 1) (hk : k ≤ 9) : ∃ h', fM_goWages (nI t) (nI k) h = some (nI (fb_ct (wgP B t) (bN B)), h') ∧ RM h' 50 (wgB B t k) ∧ Ag [50] h h' := by
  have h8 := hW.1
  unfold fM_goWages fM_goWages_0
  have main : ∃ x, rb_iter rb_fuel (fun s => fM_goWages_5b (nI t) (nI k) s.1 s.2.1 s.2.2) ((0 : Int32), (0 : Int32), h) = some x ∧ (x.1 = nI (fb_ct (wgP B t) (bN B)) ∧ Ag [50] h x.2 ∧ (∀ i, i < 16 ∨ 24 ≤ i → rb_hI x.2 50 i = rb_hI h 50 i) ∧ ∀ i, i < bN B → rb_hI x.2 50 (16 + i) = nI (bU (wgB B t k) i)) := by
    refine rb_runP (fun n s => s.1 = nI (fb_ct (wgP B t) n) ∧ s.2.1 = nI n ∧ Ag [50] h s.2.2 ∧ (∀ i, i < 16 ∨ 24 ≤ i → rb_hI s.2.2 50 i = rb_hI h 50 i) ∧ ∀ i, i < bN B → rb_hI s.2.2 50 (16 + i) = nI (if i < n then bU (wgB B t k) i else bU B i)) _ (bN B) ⟨rfl, rfl, Ag_refl _ _, fun _ _ => rfl, fun i hi => ?_⟩ (by omega) ?_ ?_
    · rw [if_neg (Nat.not_lt_zero _)]
      exact (hR.2.2.2.2 i hi).2.2.2
    · rintro n ⟨v, w, h1⟩ hn ⟨e1, e2, hA, hT, hI⟩
      dsimp only at e1 e2 hA hT hI ⊢
      subst e1
      subst e2
      have hw := hW.2.2.1 n hn
      have f5 : rb_hF h1 49 2 = nI (bN B) := (AgF hA (by decide)).trans hR.1
      have hs : rb_hI h1 51 n = nI (bS B n) := (AgI hA (by decide) n).trans (hR.2.2.2.2 n hn).2.1
      have hu := hI n hn
      rw [if_neg (Nat.lt_irrefl n)] at hu
      have e2 : nI (bP B n) = (25 : Int32) ↔ bP B n = 25 := nI_eq (b := 25) (by omega) (by omega)
      have hst : fM_isOut 50 (nI n) h1 = some (decide (bP B n = 25)) := by
        unfold fM_isOut fM_isOut_0
        rw [nI8, if_neg (oob_n (show 8 + n < 27 by omega) (by omega)), cl_n (by omega), hT _ (by omega), (hR.2.2.2.2 n hn).2.2.1]
        simp only [e2]
        by_cases c : bP B n = 25 <;> simp [c]
      have et : nI (bS B n) = nI t ↔ bS B n = t := nI_eq (by omega) (by omega)
      have same : ∀ i, ¬ i = n → ((i < n + 1) = (i < n)) := fun i hi => propext (by omega)
      have stay : ¬ wgP B t n = true → ∀ i, i < bN B → rb_hI h1 50 (16 + i) = nI (if i < n + 1 then bU (wgB B t k) i else bU B i) := by
        intro g i hi
        by_cases e : i = n
        · subst e
          rw [if_pos (Nat.lt_succ_self i), hu]
          show _ = nI (if wgP B t i = true then min (bU B i + k) 99 else bU B i)
          rw [if_neg g]
        · simp only [same i e]; exact hI i hi
      unfold fM_goWages_5b fM_goWages_70l5
      simp only [f5, if_neg (nI_ge hn (show bN B < 2 ^ 31 by omega)), hst, Option.bind_some, decide_eq_true_eq, if_neg (oob_n (show n < 8 by omega) (by omega)), cl_n (show n < 2 ^ 31 by omega), hs, et, nI16, if_neg (oob_n (show 16 + n < 27 by omega) (by omega)), cl_n (show 16 + n < 2 ^ 31 by omega), hu, nI_1, nI_add, min99' (show bU B n + k < 2 ^ 31 by omega)]
      by_cases c1 : bP B n = 25
      · rw [if_pos c1]
        have g : ¬ wgP B t n = true := by unfold wgP; simp [c1]
        refine ⟨_, rfl, ?_, rfl, hA, hT, stay g⟩
        show nI _ = nI (_ + _)
        rw [if_neg g]; rfl
      · rw [if_neg c1]
        by_cases c2 : bS B n = t
        · have g : wgP B t n = true := by unfold wgP; simp [c1, c2]
          rw [if_pos c2]
          refine ⟨_, rfl, ?_, rfl, Ag_sI (by simp) hA, fun i hi => ?_, fun i hi => ?_⟩
          · show nI (_ + 1) = nI (_ + _)
            rw [if_pos g]
          · rw [hI_sI, if_neg (by omega)]
            exact hT i hi
          · rw [hI_sI]
            by_cases e : i = n
            · rw [if_pos ⟨rfl, by omega⟩, e, if_pos (Nat.lt_succ_self n)]
              show _ = nI (if wgP B t n = true then min (bU B n + k) 99 else bU B n)
              rw [if_pos g]
            · rw [if_neg (by omega)]; simp only [same i e]; exact hI i hi
        · have g : ¬ wgP B t n = true := by unfold wgP; simp [c2]
          rw [if_neg c2]
          refine ⟨_, rfl, ?_, rfl, hA, hT, stay g⟩
          show nI _ = nI (_ + _)
          rw [if_neg g]; rfl
    · rintro ⟨v, w, h1⟩ ⟨e1, e2, hA, hT, hI⟩
      dsimp only at e1 e2 hA hT hI ⊢
      subst e1
      subst e2
      have f5 : rb_hF h1 49 2 = nI (bN B) := (AgF hA (by decide)).trans hR.1
      unfold fM_goWages_5b
      rw [f5, if_pos (nI_le (Nat.le_refl _) (by omega))]
      refine ⟨_, rfl, rfl, hA, hT, fun i hi => ?_⟩
      have := hI i hi
      rw [if_pos hi] at this
      exact this
  obtain ⟨x, m1, m2, m3, m5, m4⟩ := main
  rw [m1]
  simp only [Option.bind_some, m2]
  refine ⟨_, rfl, RM_set hR rfl rfl (by decide) m3 (by decide) ((m5 24 (by omega)).trans hR.2.1) ((m5 25 (by omega)).trans hR.2.2.1) ((m5 26 (by omega)).trans hR.2.2.2.1) (fun i hi => ?_), m3⟩
  have q := hR.2.2.2.2 i hi
  exact ⟨(m5 i (by omega)).trans q.1, (m5 (8 + i) (by omega)).trans q.2.2.1, m4 i hi⟩
/-- wages are refused by both, or both pay -/
def wageS (x v : Int32) : Prop := ((∀ h, fB_payWages x v h = some (-1, h)) ∧ fM_isWage x v = false) ∨ ∃ t k, t ≤ 1 ∧ 1 ≤ k ∧ k ≤ 9 ∧ x = nI t ∧ v = nI k ∧ fM_isWage x v = true
theorem wage_spec (x v : Int32) : wageS x v := by
  rcases rg_or x (n := 1) (by omega) with ⟨t, ht, rfl⟩ | hx
  · have hside : fB_isSide (nI t) = true := by
      rcases (show t = 0 ∨ t = 1 by omega) with rfl | rfl <;> decide
    have i1 : fM_in (nI t) 0 1 = true := M_in_y ht (by omega) rfl
    by_cases v1 : v < 1
    · refine Or.inl ⟨fun h => ?_, ?_⟩
      · unfold fB_payWages fB_payWages_0
        rw [if_pos hside, if_pos v1]
      · unfold fM_isWage fM_isWage_0
        rw [i1, if_pos rfl]
        unfold fM_in fM_in_0
        rw [if_pos v1]
        rfl
    · rcases rg_or v (n := 9) (by omega) with ⟨k, hk, rfl⟩ | hv
      · refine Or.inr ⟨t, k, ht, ?_, hk, rfl, rfl, ?_⟩
        · have : ¬ nI k < nI 1 := v1
          rw [nI_ltI (by omega) (by omega)] at this
          omega
        · unfold fM_isWage fM_isWage_0
          rw [i1, if_pos rfl]
          unfold fM_in fM_in_0
          rw [if_neg v1, if_neg (show ¬ (9 : Int32) < nI k from nI_nlt (a := 9) hk (by omega))]
          rfl
      · have v9 : ¬ v ≤ 9 := by
          rcases hv with hv | ⟨hv, hv2⟩
          · exact absurd (Int32.lt_trans hv (by decide)) v1
          · exact Int32.not_le.mpr hv2
        refine Or.inl ⟨fun h => ?_, ?_⟩
        · unfold fB_payWages fB_payWages_0
          rw [if_pos hside, if_neg v1, if_neg v9]
        · unfold fM_isWage fM_isWage_0
          rw [i1, if_pos rfl]
          unfold fM_in fM_in_0
          rw [if_neg v1, if_pos (Int32.not_le.mp v9)]
          rfl
  · have hs : fB_isSide x = false := by
      unfold fB_isSide fB_isSide_0
      rw [if_neg, if_neg]
      · rintro rfl; exact absurd hx (by decide)
      · rintro rfl; exact absurd hx (by decide)
    refine Or.inl ⟨fun h => ?_, ?_⟩
    · unfold fB_payWages fB_payWages_0
      rw [hs]; rfl
    · unfold fM_isWage fM_isWage_0
      rw [M_in_no (M := 1) hx]; rfl
theorem O_wages (x v : Int32) : rb_op (fB_wages x v) (fM_wages x v) := by
  intro σ hσ
  have hW := hσ.1
  have h8 := hW.1
  rcases wage_spec x v with ⟨c, m⟩ | ⟨t, k, ht, hk1, hk, rfl, rfl, m⟩
  · refine ⟨-1, σ, hσ, fun h hI => ?_, fun h hI => ?_⟩
    · obtain ⟨h', a1, a2, a3, a4⟩ := C_before hσ hI
      refine ⟨h', ?_, a3, AgS (by decide +kernel) a4⟩
      unfold fB_wages fB_wages_0
      simp only [a1, Option.bind_some, c h']
      rfl
    · refine ⟨_, ?_, M_ref hI⟩
      unfold fM_wages fM_wages_0
      rw [m]
      rfl
  · refine ⟨nI (fb_ct (wgP (zB σ) t) (bN (zB σ))), yT (yP (yB σ (wgB (zB σ) t k)) (pushP (zP σ) (zB σ))) (zT σ), WS_push hσ (wgB_WF hW t k) ⟨rfl, fun _ _ => rfl⟩ hσ.2.2.1, fun h hI => ?_, fun h0 hI0 => ?_⟩
    · obtain ⟨h1, a1, a2, a3, a4⟩ := C_before hσ hI
      obtain ⟨h2, b1, b2, b3⟩ := C_wages a3.1 hW ht hk1 hk
      obtain ⟨h3, c1, c2, c3⟩ := C_past100 (h := h2) hσ (PAc_ag a3.2.2.2.2.1 b3 (by decide +kernel)) (RS_ag a2 b3 (by decide) (fun _ hx => NL_at (A := sIds 100) (by decide) hx))
      unfold fB_wages fB_wages_0
      have hu := fb_ct_le (wgP (zB σ) t) (bN (zB σ))
      simp only [a1, Option.bind_some, b1, if_neg (nI_pos (show fb_ct (wgP (zB σ) t) (bN (zB σ)) < 2 ^ 31 by omega)), c1]
      exact ⟨h3, rfl, C_done hI (Ag_trans (fC0_fC a4) (Ag_trans (AgS (by decide +kernel) b3) (AgS (by decide +kernel) c3))) (RSn_ag b2 c3 (by decide +kernel)) c2 (RWc_ag (RWc_ag a3.2.2.2.1 b3 (by decide)) c3 (by decide +kernel))⟩
    · have hI := IM_thr hI0
      have hA0 := thr_ag' h0
      unfold fM_wages fM_wages_0
      rw [m, if_pos rfl]
      generalize rb_sF h0 49 7 0 = h at hI hA0 ⊢
      obtain ⟨h1, a1, a2, a3⟩ := M_pastI hσ hI
      obtain ⟨h2, b1, b2, b3⟩ := M_wages (RMn_ag hI.1 a3 (by decide)) hW ht hk
      simp only [Option.bind_some, a1, b1]
      exact ⟨h2, rfl, M_done hI0 (Ag_trans hA0 (Ag_trans (AgS (by decide +kernel) a3) (AgS (by decide +kernel) b3))) b2 rfl (PAm_ag a2 b3 (by decide)) (RWm_ag (RWm_ag hI.2.2.2.1 a3 (by decide)) b3 (by decide))⟩
