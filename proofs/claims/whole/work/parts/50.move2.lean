/-! the model's move; moves() -/
section
variable {h : rb_H} {o a : Nat} {B : sBd}
theorem RM_set {h' : rb_H} {B' : sBd} (hR : RM h a B) (hn : bN B' = bN B) (hs : bS B' = bS B) (ha : a ≠ 51) (hA : Ag [a] h h') (hal : a < 1000) (ht : rb_hI h' a 24 = nI (bT B')) (hq : rb_hI h' a 25 = bQ B') (hm : rb_hI h' a 26 = bM B') (hc : ∀ i, i < bN B → rb_hI h' a i = nI (bK B' i) ∧ rb_hI h' a (8 + i) = nI (bP B' i) ∧ rb_hI h' a (16 + i) = nI (bU B' i)) : RM h' a B' := by
  refine ⟨?_, ht, hq, hm, fun i hi => ?_⟩
  · rw [hn]
    exact (AgF hA (by simp [fid]; omega)).trans hR.1
  · rw [hn] at hi
    obtain ⟨c1, c2, c3⟩ := hc i hi
    refine ⟨c1, ?_, c2, c3⟩
    rw [hs]
    exact (AgI hA (by simpa using fun z => ha z.symm) i).trans (hR.2.2.2.2 i hi).2.1
theorem M_move98 (hR : RM h a B) (hT : bT B ≤ 1) (hN : bN B ≤ 8) {p : Nat} (hp : p < bN B) (ha : a ≠ 51) (hal : a < 1000) (v : Int32) : ∃ h', fM_goMove_98 a (nI p) v h = some (nI (bU B p) - v, h') ∧ RM h' a (tmB B) ∧ Ag [a] h h' := by
  have q := hR.2.2.2.2 p hp
  have A : Ag [a] h (rb_sI (rb_sI h a 24 (nI (1 - bT B))) a 26 (rb_hI h a 26 + 1)) := Ag_sI (by simp) (Ag_sI (by simp) (Ag_refl _ _))
  have e26 : rb_hI (rb_sI h a 24 (nI (1 - bT B))) a 26 = rb_hI h a 26 := by rw [hI_sI, if_neg (by omega)]
  unfold fM_goMove_98
  rw [nI16, if_neg (oob_n (show 16 + p < 27 by omega) (by omega)), cl_n (by omega), hR.2.1, nI_sub1 hT, e26]
  refine ⟨_, ?_, RM_set hR rfl rfl ha A hal ?_ ?_ ?_ (fun i hi => ?_), A⟩
  · rw [hI_sI, if_neg (by omega), hI_sI, if_neg (by omega), q.2.2.2]
  · rw [hI_sI, if_neg (by omega), hI_sI, if_pos ⟨rfl, rfl⟩]; rfl
  · rw [hI_sI, if_neg (by omega), hI_sI, if_neg (by omega)]; exact hR.2.2.1
  · rw [hI_sI, if_pos ⟨rfl, rfl⟩, hR.2.2.2.1]; rfl
  · have q := hR.2.2.2.2 i hi
    simp only [hI_sI]
    rw [if_neg (by omega), if_neg (by omega), if_neg (by omega), if_neg (by omega), if_neg (by omega), if_neg (by omega)]
    exact ⟨q.1, q.2.2.1, q.2.2.2⟩
theorem M_move91 (hR : RM h a B) (hT : bT B ≤ 1) (hN : bN B ≤ 8) {p s t : Nat} (hp : p < bN B) (hs : s < 25) (ht : t < 10) (ha : a ≠ 51) (hal : a < 1000) (v : Int32) : ∃ h', fM_goMove_91 a (nI p) v (nI t) (nI s / 5) h = some (nI (bU B p) - v, h') ∧ RM h' a (tmB (if s / 5 = t then quB B p else B)) ∧ Ag [a] h h' := by
  have et : nI (s / 5) = nI t ↔ s / 5 = t := nI_eq (by omega) (by omega)
  unfold fM_goMove_91
  simp only [div5 hs, et, if_neg (oob_n (show p < 27 by omega) (by omega)), cl_n (show p < 2 ^ 31 by omega)]
  by_cases c : s / 5 = t
  · rw [if_pos c, if_pos c]
    have A : Ag [a] h (rb_sI h a p 1) := Ag_sI (by simp) (Ag_refl _ _)
    have hR1 : RM (rb_sI h a p 1) a (quB B p) := by
      refine RM_set hR rfl rfl ha A hal ?_ ?_ ?_ (fun i hi => ?_)
      · rw [hI_sI, if_neg (by omega)]; exact hR.2.1
      · rw [hI_sI, if_neg (by omega)]; exact hR.2.2.1
      · rw [hI_sI, if_neg (by omega)]; exact hR.2.2.2.1
      · have q := hR.2.2.2.2 i hi
        rw [hI_sI, hI_sI, hI_sI, if_neg (show ¬ (a = a ∧ 8 + i = p) by omega), if_neg (show ¬ (a = a ∧ 16 + i = p) by omega)]
        refine ⟨?_, q.2.2.1, q.2.2.2⟩
        show _ = nI (if i = p then 1 else bK B i)
        by_cases e : i = p
        · rw [if_pos ⟨rfl, e⟩, if_pos e]; rfl
        · rw [if_neg (fun z => e z.2), if_neg e]; exact q.1
    obtain ⟨h', m1, m2, m3⟩ := M_move98 hR1 hT hN hp ha hal v
    exact ⟨h', m1, m2, Ag_trans A m3⟩
  · rw [if_neg c, if_neg c]
    exact M_move98 hR hT hN hp ha hal v
theorem M_move60 (hR : RM h a B) (hT : bT B ≤ 1) (hN : bN B ≤ 8) (hK : ∀ i, i < bN B → bK B i ≤ 5 ∧ bS B i ≤ 1) {p s : Nat} (hp : p < bN B) (hs : s < 25) (ha : a ≠ 51) (hal : a < 1000) (v : Int32) : ∃ h', fM_goMove_60 a (nI p) (nI s) v h = some (nI (bU B p) - v, h') ∧ RM h' a (tmB (if bK B p = 5 ∧ s / 5 = lastRow (bS B p) then quB (plB B p s) p else plB B p s)) ∧ Ag [a] h h' := by
  have A : Ag [a] h (rb_sI h a (8 + p) (nI s)) := Ag_sI (by simp) (Ag_refl _ _)
  have hR1 : RM (rb_sI h a (8 + p) (nI s)) a (plB B p s) := by
    refine RM_set hR rfl rfl ha A hal ?_ ?_ ?_ (fun i hi => ?_)
    · rw [hI_sI, if_neg (by omega)]; exact hR.2.1
    · rw [hI_sI, if_neg (by omega)]; exact hR.2.2.1
    · rw [hI_sI, if_neg (by omega)]; exact hR.2.2.2.1
    · have q := hR.2.2.2.2 i hi
      rw [hI_sI, hI_sI, hI_sI, if_neg (show ¬ (a = a ∧ i = 8 + p) by omega), if_neg (show ¬ (a = a ∧ 16 + i = 8 + p) by omega)]
      refine ⟨q.1, ?_, q.2.2.2⟩
      show _ = nI (if i = p then s else bP B i)
      by_cases e : i = p
      · rw [if_pos ⟨rfl, by omega⟩, if_pos e]
      · rw [if_neg (fun z => e (by omega)), if_neg e]; exact q.2.2.1
  have q := hR1.2.2.2.2 p hp
  obtain ⟨hk1, hs1⟩ := hK p hp
  unfold fM_goMove_60
  have q1 : rb_hI (rb_sI h a (8 + p) (nI s)) a p = nI (bK B p) := q.1
  have q2 : rb_hI (rb_sI h a (8 + p) (nI s)) 51 p = nI (bS B p) := q.2.1
  have e5 : nI (bK B p) = (5 : Int32) ↔ bK B p = 5 := nI_eq (b := 5) (by omega) (by omega)
  have e0 : nI (bS B p) = (0 : Int32) ↔ bS B p = 0 := nI_eq (b := 0) (by omega) (by omega)
  simp only [nI8, if_neg (oob_n (show 8 + p < 27 by omega) (by omega)), if_neg (oob_n (show p < 27 by omega) (by omega)), if_neg (oob_n (show p < 8 by omega) (by omega)), cl_n (show 8 + p < 2 ^ 31 by omega), cl_n (show p < 2 ^ 31 by omega), q1, q2, e5, e0]
  unfold lastRow
  by_cases c5 : bK B p = 5
  · rw [if_pos c5]
    by_cases c : bS B p = 0
    · rw [if_pos c, if_pos c]
      obtain ⟨h', m1, m2, m3⟩ := M_move91 hR1 hT hN hp hs (t := 4) (by omega) ha hal v
      have : (bK B p = 5 ∧ s / 5 = 4) = (s / 5 = 4) := by simp [c5]
      simp only [this]
      exact ⟨h', m1, m2, Ag_trans A m3⟩
    · rw [if_neg c, if_neg c]
      obtain ⟨h', m1, m2, m3⟩ := M_move91 hR1 hT hN hp hs (t := 0) (by omega) ha hal v
      have : (bK B p = 5 ∧ s / 5 = 0) = (s / 5 = 0) := by simp [c5]
      simp only [this]
      exact ⟨h', m1, m2, Ag_trans A m3⟩
  · rw [if_neg c5]
    obtain ⟨h', m1, m2, m3⟩ := M_move98 hR1 hT hN hp ha hal v
    refine ⟨h', m1, ?_, Ag_trans A m3⟩
    rw [if_neg (fun z => c5 z.1)]
    exact m2
theorem M_goMove (hR : RM h a B) (hW : WF B) {p s : Nat} (hp : p < bN B) (hs : s < 25) (hn : bP B p ≠ s) (ha : a ≠ 51) (hal : a < 1000) : ∃ h', fM_goMove a (nI p) (nI s) h = some (nI (mvU B p s), h') ∧ RM h' a (mvB B p s) ∧ Ag [a] h h' := by
  have h8 := hW.1
  have hT := hW.2.1
  have hK : ∀ i, i < bN B → bK B i ≤ 5 ∧ bS B i ≤ 1 := fun i hi => ⟨(hW.2.2.1 i hi).1, (hW.2.2.1 i hi).2.1⟩
  have q := hR.2.2.2.2 p hp
  have hu := mv1_U hW hp hn
  unfold fM_goMove fM_goMove_0
  simp only [M_on hR hW (show s < 100 by omega), Option.bind_some, nI16, if_neg (oob_n (show 16 + p < 27 by omega) (by omega)), cl_n (show 16 + p < 2 ^ 31 by omega), q.2.2.2]
  by_cases c : who B s < bN B
  · have hwp : p ≠ who B s := fun z => hn (by rw [z]; exact who_at c)
    have qw := hR.2.2.2.2 _ c
    have uw := (hW.2.2.1 _ c).2.2.2
    have up := (hW.2.2.1 _ hp).2.2.2
    have n1 : ¬ nI (who B s) = (-1 : Int32) := fun z => by
      have := nI_pos' (n := who B s) (by omega)
      rw [z] at this
      exact absurd this (by decide)
    have ew : rb_hI (rb_sI h a (8 + who B s) 25) a (16 + who B s) = nI (bU B (who B s)) := by rw [hI_sI, if_neg (by omega), qw.2.2.2]
    rw [if_pos c, if_neg n1]
    simp only [nI8, nI16, if_neg (oob_n (show 8 + who B s < 27 by omega) (by omega)), if_neg (oob_n (show 16 + who B s < 27 by omega) (by omega)), cl_n (show 8 + who B s < 2 ^ 31 by omega), cl_n (show 16 + who B s < 2 ^ 31 by omega), ew, nI_add, min99' (show bU B p + bU B (who B s) < 2 ^ 31 by omega)]
    generalize hg : rb_sI (rb_sI (rb_sI h a (8 + who B s) 25) a (16 + p) (nI (min (bU B p + bU B (who B s)) 99))) a (16 + who B s) 0 = g
    have Ag1 : Ag [a] h g := by
      rw [← hg]
      exact Ag_sI (by simp) (Ag_sI (by simp) (Ag_sI (by simp) (Ag_refl _ _)))
    have e1 : mv1 B p s = evB B p (who B s) := if_pos c
    have hR1 : RM g a (mv1 B p s) := by
      rw [e1]
      refine RM_set hR rfl rfl ha Ag1 hal ?_ ?_ ?_ (fun i hi => ?_)
      · rw [← hg]; simp only [hI_sI]; rw [if_neg (by omega), if_neg (by omega), if_neg (by omega)]; exact hR.2.1
      · rw [← hg]; simp only [hI_sI]; rw [if_neg (by omega), if_neg (by omega), if_neg (by omega)]; exact hR.2.2.1
      · rw [← hg]; simp only [hI_sI]; rw [if_neg (by omega), if_neg (by omega), if_neg (by omega)]; exact hR.2.2.2.1
      · have q := hR.2.2.2.2 i hi
        rw [← hg]
        simp only [hI_sI, true_and]
        refine ⟨?_, ?_, ?_⟩
        · rw [if_neg (by omega), if_neg (by omega), if_neg (by omega)]; exact q.1
        · rw [if_neg (by omega), if_neg (by omega)]
          show _ = nI (if i = who B s then 25 else bP B i)
          by_cases e : i = who B s
          · rw [if_pos (by omega), if_pos e]; rfl
          · rw [if_neg (by omega), if_neg e]; exact q.2.2.1
        · show _ = nI (if i = who B s then 0 else if i = p then min (bU B p + bU B (who B s)) 99 else bU B i)
          by_cases e : i = who B s
          · rw [if_pos (by omega), if_pos e]; rfl
          · rw [if_neg (by omega), if_neg e]
            by_cases e2 : i = p
            · rw [if_pos (by omega), if_pos e2]
            · rw [if_neg (by omega), if_neg (by omega), if_neg e2]; exact q.2.2.2
    obtain ⟨h', m1, m2, m3⟩ := M_move60 hR1 (by rw [mv1_T]; exact hT) (by rw [mv1_N]; exact h8) (by rw [mv1_N, mv1_K, mv1_S]; exact hK) (p := p) (s := s) (by rw [mv1_N]; exact hp) hs ha hal (nI (bU B p))
    rw [mv1_K, mv1_S] at m2
    refine ⟨h', ?_, m2, Ag_trans Ag1 m3⟩
    rw [m1, nI_sub hu.1]
    rfl
  · have e1 : mv1 B p s = B := if_neg c
    rw [if_neg c, if_pos rfl]
    obtain ⟨h', m1, m2, m3⟩ := M_move60 hR hT h8 hK hp hs ha hal (nI (bU B p))
    refine ⟨h', ?_, ?_, m3⟩
    · rw [m1, nI_sub (Nat.le_refl _)]
      unfold mvU
      rw [e1]
    · unfold mvB mv3
      rw [e1]
      exact m2
/-- of whom and to where a move can be -/
def canM (B : sBd) (p s : Nat) : Bool := decide (bP B p ≠ 25) && decide (bS B p = bT B) && goB B p (bP B p) s
theorem canM_ne (hW : WF B) {p s : Nat} (hp : p < bN B) (hs : s < 25) (hc : canM B p s = true) : bP B p ≠ s := by
  intro z
  unfold canM at hc
  simp only [Bool.and_eq_true] at hc
  rw [z, goB_self hW hp hs] at hc
  exact absurd hc.2 (by decide)
theorem M_isSquare_y {s : Nat} (hs : s < 25) : fM_isSquare (nI s) = true := by
  unfold fM_isSquare fM_isSquare_0
  exact M_in_y (n := 24) (by omega) (by omega) rfl
theorem M_isSquare_n {x : Int32} (hx : ∀ s, s < 25 → x ≠ nI s) : fM_isSquare x = false := by
  unfold fM_isSquare fM_isSquare_0
  rcases rg_or x (n := 24) (by omega) with ⟨k, hk, rfl⟩ | h
  · exact absurd rfl (hx k (by omega))
  · exact M_in_no h
/-- the answer of a call that asks for a move: none, or the piece and the square -/
def mvA (B : sBd) (p s : Nat) : Int32 := if bP B p = 25 ∨ bS B p ≠ bT B then -2 else if goB B p (bP B p) s = true then 0 else -3
theorem M_refuses (hR : RM h a B) (hW : WF B) {p s : Nat} (hp : p < bN B) (hs : s < 25) : fM_refusesMove a (nI p) (nI s) h = some (mvA B p s) := by
  have h8 := hW.1
  have q := hR.2.2.2.2 p hp
  have w := hW.2.2.1 p hp
  have hT := hW.2.1
  have eT : nI (bS B p) = nI (bT B) ↔ bS B p = bT B := nI_eq (by omega) (by omega)
  unfold fM_refusesMove fM_refusesMove_0
  simp only [M_isPiece_y hR hW hp, M_isSquare_y hs, if_true, M_isOut hR hW hp, Option.bind_some, decide_eq_true_eq, if_neg (oob_n (show p < 8 by omega) (by omega)), cl_n (show p < 2 ^ 31 by omega), q.2.1, hR.2.1, eT, M_canGoNow hR hW hp hs]
  unfold mvA
  by_cases c1 : bP B p = 25
  · simp [c1]
  · by_cases c2 : bS B p = bT B
    · simp [c1, c2]
      split <;> rfl
    · simp [c1, c2]
theorem M_refuses_no (hR : RM h a B) (hW : WF B) {x y : Int32} (hx : (∀ p, p < bN B → x ≠ nI p) ∨ ∀ s, s < 25 → y ≠ nI s) : fM_refusesMove a x y h = some (-1) := by
  unfold fM_refusesMove fM_refusesMove_0
  rcases hx with hx | hy
  · rw [M_isPiece_n hR hW hx, if_neg (by decide)]
  · rw [M_isSquare_n hy, if_neg (by decide : ¬ false = true)]
    split <;> rfl
theorem C_makeMove (hR : RS h 94 B) (hW : WF B) {p s : Nat} (hp : p < bN B) (hs : s < 25) : (mvA B p s = 0 → ∃ h', fB_makeMove (nI p) (nI s) h = some (nI (mvU B p s), h') ∧ RS h' 94 (mvB B p s) ∧ Ag (sIds 94) h h') ∧ (mvA B p s ≠ 0 → fB_makeMove (nI p) (nI s) h = some (mvA B p s, h)) := by
  have h8 := hW.1
  have w := hW.2.2.1 p hp
  unfold fB_makeMove fB_makeMove_0
  simp only [S_has_y hR hW hp, B_isSquare_y hs, if_true, S_isOnTurn_y hR hW hp, Option.bind_some, Bool.and_eq_true, decide_eq_true_eq]
  unfold mvA
  by_cases c1 : bP B p = 25
  · simp [c1]
  · by_cases c2 : bS B p = bT B
    · have e : fB_holds (bits (goB B p (bP B p)) 25) (nI s) = goB B p (bP B p) s := by
        rw [holds_bt _ (by omega), bits_bt _ 25 (by omega) s (by omega)]
        simp [hs]
      simp only [S_reach_y hR hW hp c1, Option.bind_some, e]
      by_cases c3 : goB B p (bP B p) s = true
      · refine ⟨fun _ => ?_, fun z => absurd z (by simp [c1, c2, c3])⟩
        obtain ⟨h', m1, m2, m3⟩ := C_move hR hW hp hs (canM_ne hW hp hs (by unfold canM; simp [c1, c2, c3])) (by decide)
        refine ⟨h', ?_, m2, m3⟩
        rw [if_pos ⟨c1, c2⟩, if_pos c3, m1]
        rfl
      · refine ⟨fun z => absurd z (by simp [c1, c2, c3]), fun _ => ?_⟩
        rw [if_pos ⟨c1, c2⟩, if_neg c3]
        simp [c1, c2, c3]
    · simp [c1, c2]
theorem C_makeMove_no (hR : RS h 94 B) (hW : WF B) {x y : Int32} (hx : (∀ p, p < bN B → x ≠ nI p) ∨ ∀ s, s < 25 → y ≠ nI s) : fB_makeMove x y h = some (-1, h) := by
  unfold fB_makeMove fB_makeMove_0
  rcases hx with hx | hy
  · rw [S_has_n hR hW hx, if_neg (by decide)]
  · rw [B_isSquare_n hy, if_neg (by decide : ¬ false = true)]
    split <;> rfl
theorem mvA_can {p s : Nat} (h0 : mvA B p s = 0) : canM B p s = true := by
  unfold mvA at h0
  unfold canM
  by_cases c1 : bP B p = 25
  · simp [c1] at h0
  · by_cases c2 : bS B p = bT B
    · by_cases c3 : goB B p (bP B p) s = true
      · simp [c1, c2, c3]
      · simp [c1, c2, c3] at h0
    · simp [c1, c2] at h0
theorem mvA_neg {p s : Nat} (h0 : mvA B p s ≠ 0) : mvA B p s < 0 := by
  unfold mvA at h0 ⊢
  split
  · decide
  · rename_i h
    rw [if_neg h] at h0
    split
    · rename_i h2; rw [if_pos h2] at h0; exact absurd rfl h0
    · decide
end
/-- the class's copy ahead of a call -/
theorem C_before {h : rb_H} {σ : sSt} (hσ : WS σ) (hI : IC h σ) : ∃ h', fS_copyFrom 100 94 h = some h' ∧ RS h' 100 (zB σ) ∧ IC h' σ ∧ Ag fC0 h h' := by
  obtain ⟨h', a1, a2, a3⟩ := S_copyFrom (o := 100) hI.1 hσ.1 (by omega) (by decide)
  exact ⟨h', a1, a2, IC_ag hI a3 (by decide +kernel), AgS (by decide +kernel) a3⟩
theorem fC0_fC {h h' : rb_H} (hA : Ag fC0 h h') : Ag fC h h' := AgS (by decide +kernel) hA
theorem fM0_fM {h h' : rb_H} (hA : Ag fM0 h h') : Ag fM h h' := AgS (by decide +kernel) hA
theorem C_past100 {h : rb_H} {σ : sSt} (hσ : WS σ) (hP : PAc h (zP σ)) (hR : RS h 100 (zB σ)) : ∃ h', fP_add 100 h = some h' ∧ PAc h' (pushP (zP σ) (zB σ)) ∧ Ag pP h h' := C_past hP hσ.2.2.2.1.1 hR hσ.1 (Or.inr rfl)
theorem O_moves (x y : Int32) : rb_op (fB_moves x y) (fM_moves x y) := by
  intro σ hσ
  have hW := hσ.1
  have h8 := hW.1
  have refuse : ∀ r : Int32, r < 0 → (∀ h, RS h 94 (zB σ) → fB_makeMove x y h = some (r, h)) → (∀ h, RM h 50 (zB σ) → fM_refusesMove 50 x y h = some r) → ∃ (r : Int32) (σ' : sSt), WS σ' ∧ (∀ h, IC h σ → ∃ h', fB_moves x y h = some (r, h') ∧ IC h' σ' ∧ Ag cC h h') ∧ ∀ h, IM h σ → ∃ h', fM_moves x y h = some (r, h') ∧ IM h' σ' ∧ Ag cM h h' := by
    intro r hr h1 h2
    refine ⟨r, σ, hσ, fun h hI => ?_, fun h0 hI0 => ?_⟩
    · obtain ⟨h', a1, a2, a3, a4⟩ := C_before hσ hI
      refine ⟨h', ?_, a3, AgS (by decide +kernel) a4⟩
      unfold fB_moves fB_moves_0
      simp only [a1, Option.bind_some, h1 h' a3.1]
      rw [if_neg (Int32.not_le.mpr hr)]
    · refine ⟨_, ?_, M_ref hI0⟩
      unfold fM_moves fM_moves_0
      rw [h2 _ (IM_thr hI0).1]
      simp only [Option.bind_some]
      rw [if_neg (Int32.not_le.mpr hr)]
  rcases sq_or x (bN (zB σ)) with ⟨p, hp, rfl⟩ | hx
  · rcases sq_or y 25 with ⟨s, hs, rfl⟩ | hy
    · by_cases h0 : mvA (zB σ) p s = 0
      · have hc := mvA_can h0
        have hne := canM_ne hW hp hs hc
        have hW' := mvB_WF hW hp hs hne
        have hp' : p < bN (mvB (zB σ) p s) := by rw [mvB_N]; exact hp
        refine ⟨nI (mvU (zB σ) p s), yT (yP (yB σ (mvB (zB σ) p s)) (pushP (zP σ) (zB σ))) [(nI (bU (mvB (zB σ) p s) p)).toInt64, (nI (bK (mvB (zB σ) p s) p)).toInt64], WS_push hσ hW' ⟨mvB_N _ _ _, fun j _ => by rw [mvB_S]⟩ (by simp), fun h hI => ?_, fun h0' hI0 => ?_⟩
        · obtain ⟨h1, a1, a2, a3, a4⟩ := C_before hσ hI
          obtain ⟨h2, b1, b2, b3⟩ := (C_makeMove a3.1 hW hp hs).1 h0
          obtain ⟨h3, c1, c2, c3⟩ := C_past100 (h := h2) hσ (PAc_ag a3.2.2.2.2.1 b3 (by decide +kernel)) (RS_ag a2 b3 (by decide) (fun _ hx => NL_at (A := sIds 100) (by decide) hx))
          have R3 := RSn_ag b2 c3 (by decide +kernel)
          obtain ⟨h4, d1, d2, d3⟩ := C_tell1 (nI (bU (mvB (zB σ) p s) p)).toInt64 (nI (bK (mvB (zB σ) p s) p)).toInt64 h3
          have q := R3.2.2.2.2 p hp'
          have q1 : rb_hI h3 98 p = nI (bU (mvB (zB σ) p s) p) := q.2.2.2
          have q2 : rb_hI h3 95 p = nI (bK (mvB (zB σ) p s) p) := q.1
          have hu := mv1_U hW hp hne
          unfold fB_moves fB_moves_0
          simp only [a1, Option.bind_some, b1, if_pos (nI_pos' (show mvU (zB σ) p s < 2 ^ 31 by unfold mvU; omega)), c1, if_neg (oob_n (show p < 8 by omega) (by omega)), cl_n (show p < 2 ^ 31 by omega), q1, q2, d1]
          exact ⟨h4, rfl, C_done hI (Ag_trans (fC0_fC a4) (Ag_trans (AgS (by decide +kernel) b3) (Ag_trans (AgS (by decide +kernel) c3) (AgS (by decide +kernel) d3)))) (RSn_ag R3 d3 (by decide)) (PAc_ag c2 d3 (by decide +kernel)) d2⟩
        · have hI := IM_thr hI0
          have hA0 := thr_ag' h0'
          unfold fM_moves fM_moves_0
          generalize rb_sF h0' 49 7 0 = h at hI hA0 ⊢
          obtain ⟨h1, a1, a2, a3⟩ := M_pastI hσ hI
          obtain ⟨h2, b1, b2, b3⟩ := M_goMove (RMn_ag hI.1 a3 (by decide)) hW hp hs hne (by decide) (by decide)
          have q := b2.2.2.2.2 p hp'
          obtain ⟨h3, c1, c2, c3⟩ := M_tellA (nI (bU (mvB (zB σ) p s) p)).toInt64 h2
          obtain ⟨h4, d1, d2, d3⟩ := M_tell c2 (by simp) (nI (bK (mvB (zB σ) p s) p)).toInt64
          have e1 : rb_hI (rb_sF h2 49 6 0) 50 (16 + p) = nI (bU (mvB (zB σ) p s) p) := q.2.2.2
          have e2 : rb_hI h3 50 p = nI (bK (mvB (zB σ) p s) p) := (AgI c3 (by decide) p).trans q.1
          simp only [M_refuses hI.1 hW hp hs, h0, Option.bind_some, a1, b1, nI16, if_neg (oob_n (show 16 + p < 27 by omega) (by omega)), if_neg (oob_n (show p < 27 by omega) (by omega)), cl_n (show 16 + p < 2 ^ 31 by omega), cl_n (show p < 2 ^ 31 by omega), e1, c1, e2, d1]
          rw [if_pos (by decide)]
          have A := Ag_trans c3 d3
          exact ⟨h4, rfl, M_done hI0 (Ag_trans hA0 (Ag_trans (AgS (by decide +kernel) a3) (Ag_trans (AgS (by decide +kernel) b3) (AgS (by decide +kernel) A)))) (RMn_ag b2 A (by decide)) (mvB_N _ _ _) (PAm_ag (PAm_ag a2 b3 (by decide)) A (by decide)) d2⟩
      · exact refuse _ (mvA_neg h0) (fun h hR => (C_makeMove hR hW hp hs).2 h0) (fun h hR => M_refuses hR hW hp hs)
    · exact refuse (-1) (by decide) (fun h hR => C_makeMove_no hR hW (Or.inr hy)) (fun h hR => M_refuses_no hR hW (Or.inr hy))
  · exact refuse (-1) (by decide) (fun h hR => C_makeMove_no hR hW (Or.inl hx)) (fun h hR => M_refuses_no hR hW (Or.inl hx))
