/-! a text of a rule: the class reads it as the model does -/
def rdL : List Nat := [2000, 1004, 1009, 1010, 1011, 1012, 1017]
def ruOf (n : Nat) (v : (Nat → Int32) → Int32) : sRu := if n = 0 then (true, fun _ => 0) else (false, fun th => v (cutT th))
theorem rp_X_of {σ : sSt} (hσ : WS σ) {top : Nat} (ht : top ≤ 80) : rp_X (zX σ) top := ⟨hσ.2.1.1, hσ.2.1.2, ht⟩
section
variable {X : List Nat}
/-- the model begins to read what was typed -/
theorem rp_begin {h : rb_H} (hX : TXm h X) (hl : X.length ≤ 80) (top : Nat) : ∃ h1, fM_beginText (nI top) h = h1 ∧ rp_M h1 52 X top 0 (-1) ∧ TXm h1 [] ∧ rb_hF h1 49 9 = nI X.length ∧ Ag rdL h h1 := by
  refine ⟨_, rfl, ?_, ?_, ?_, ?_⟩
  · unfold fM_beginText fM_beginText_0 fM_begin fM_begin_0
    simp only [rb_lt]
    refine ⟨?_, Or.inl rfl, ?_, ?_, ?_, ?_, ?_, fun i hi => ?_⟩
    · simp [hI_sI, hI_sJ, hI_sF, hI_sR, hI_cp, hJ_sI, hJ_sJ, hJ_sF, hJ_sR, hJ_cp, hF_sI, hF_sJ, hF_sF, hF_sR, hF_cp, hR_sI, hR_sJ, hR_sF, hR_sR, hR_cp]
    · show X.length ≤ 80
      exact hl
    · simp [hI_sI, hI_sJ, hI_sF, hI_sR, hI_cp, hJ_sI, hJ_sJ, hJ_sF, hJ_sR, hJ_cp, hF_sI, hF_sJ, hF_sF, hF_sR, hF_cp, hR_sI, hR_sJ, hR_sF, hR_sR, hR_cp, hX.1]
    · simp [hI_sI, hI_sJ, hI_sF, hI_sR, hI_cp, hJ_sI, hJ_sJ, hJ_sF, hJ_sR, hJ_cp, hF_sI, hF_sJ, hF_sF, hF_sR, hF_cp, hR_sI, hR_sJ, hR_sF, hR_sR, hR_cp]
    · simp [hI_sI, hI_sJ, hI_sF, hI_sR, hI_cp, hJ_sI, hJ_sJ, hJ_sF, hJ_sR, hJ_cp, hF_sI, hF_sJ, hF_sF, hF_sR, hF_cp, hR_sI, hR_sJ, hR_sF, hR_sR, hR_cp]; rfl
    · simp [hI_sI, hI_sJ, hI_sF, hI_sR, hI_cp, hJ_sI, hJ_sJ, hJ_sF, hJ_sR, hJ_cp, hF_sI, hF_sJ, hF_sF, hF_sR, hF_cp, hR_sI, hR_sJ, hR_sF, hR_sR, hR_cp]
    · simpa [hI_sI, hI_sJ, hI_sF, hI_sR, hI_cp, hJ_sI, hJ_sJ, hJ_sF, hJ_sR, hJ_cp, hF_sI, hF_sJ, hF_sF, hF_sR, hF_cp, hR_sI, hR_sJ, hR_sF, hR_sR, hR_cp] using hX.2 i hi
  · refine ⟨?_, fun i hi => absurd hi (Nat.not_lt_zero _)⟩
    unfold fM_beginText fM_beginText_0 fM_begin fM_begin_0
    simp only [rb_lt]
    simp [hI_sI, hI_sJ, hI_sF, hI_sR, hI_cp, hJ_sI, hJ_sJ, hJ_sF, hJ_sR, hJ_cp, hF_sI, hF_sJ, hF_sF, hF_sR, hF_cp, hR_sI, hR_sJ, hR_sF, hR_sR, hR_cp]
    rfl
  · unfold fM_beginText fM_beginText_0 fM_begin fM_begin_0
    simp only [rb_lt]
    simp [hI_sI, hI_sJ, hI_sF, hI_sR, hI_cp, hJ_sI, hJ_sJ, hJ_sF, hJ_sR, hJ_cp, hF_sI, hF_sJ, hF_sF, hF_sR, hF_cp, hR_sI, hR_sJ, hR_sF, hR_sR, hR_cp, hX.1]
  · unfold fM_beginText fM_beginText_0 fM_begin fM_begin_0
    simp only [rb_lt]
    exact Ag_sF (by decide) (Ag_sF (by decide) (Ag_sF (by decide) (Ag_sF (by decide) (Ag_sF (by decide) (Ag_sR (by decide) (Ag_refl _ _))))))
theorem TXm_e {h h' : rb_H} {L : List Nat} (hX : TXm h []) (hA : Ag L h h') (hL : NL [1004] L = true) : TXm h' [] := ⟨(AgF (a := 49) (i := 4) hA (NL_at hL (by decide))).trans hX.1, fun i hi => absurd hi (Nat.not_lt_zero _)⟩
/-- the class's reading, told by what the machine does -/
theorem rule_classBad {q : Nat} (hX : rp_X X 40) (hq : mG X 0 mS0 = .inl q ∨ (q = min X.length 40 ∧ ∃ s', mG X 0 mS0 = .inr s' ∧ mBad X s')) {h : rb_H} (hT : TXc h X) : ∃ h', fU_read 11 h = some (nI q, h') ∧ Ag [11, 12, 14, 15] h h' := by
  obtain ⟨r, h', a1, a2, a3, a4⟩ := rp_read hT hX.1 hX.2.1
  refine ⟨h', ?_, a2⟩
  rw [a1]
  rcases hq with e | ⟨rfl, s', e, hb⟩
  · rw [a3 q e]
  · rw [(a4 s' e).1 hb]
theorem rule_classGood {s' : sM} (hX : rp_X X 40) (e : mG X 0 mS0 = .inr s') (hb : ¬ mBad X s') {h : rb_H} (hT : TXc h X) : ∃ h', fU_read 11 h = some (-1, h') ∧ Ag [11, 12, 14, 15] h h' ∧ (mRel 1 s'.1 s'.2.1).1.length ≤ 40 ∧ rb_hF h' 11 5 = nI (mRel 1 s'.1 s'.2.1).1.reverse.length ∧ ∀ i, i < (mRel 1 s'.1 s'.2.1).1.reverse.length → rb_hI h' 12 i = (mRel 1 s'.1 s'.2.1).1.reverse.getD i 0 := by
  obtain ⟨r, h', a1, a2, a3, a4⟩ := rp_read hT hX.1 hX.2.1
  obtain ⟨b1, b2, b3, b4⟩ := (a4 s' e).2 hb
  refine ⟨h', ?_, a2, b2, ?_, fun i hi => ?_⟩
  · rw [a1, b1]
  · rw [b3, List.length_reverse]
  · rw [List.length_reverse] at hi
    exact b4 i hi
/-- the reading of a text, by both -/
theorem rule_both (hX : rp_X X 40) : (∃ q, q ≤ 40 ∧ (∀ h, TXc h X → ∃ h', fU_read 11 h = some (nI q, h') ∧ Ag [11, 12, 14, 15] h h') ∧ ∀ h, TXm h X → ∃ h', fM_readRule h = some (false, h') ∧ rb_hF h' 49 12 = nI q ∧ TXm h' [] ∧ Ag rdL h h') ∨
    ∃ (C : List Int32) (v : (Nat → Int32) → Int32), X.length ≤ 40 ∧ C.length ≤ 40 ∧ (∀ h, TXc h X → ∃ h', fU_read 11 h = some (-1, h') ∧ Ag [11, 12, 14, 15] h h' ∧ rb_hF h' 11 5 = nI C.length ∧ ∀ i, i < C.length → rb_hI h' 12 i = C.getD i 0) ∧ (∀ h, TXm h X → ∃ h', fM_readRule h = some (true, h') ∧ TXm h' [] ∧ Ag rdL h h') ∧ ((X.length = 0 ∧ C = []) ∨ (0 < X.length ∧ 0 < C.length ∧ (∀ th, xs th C [] = [v th]) ∧ rp_O (fR_held_product_sum_thing rb_deep 0 0) X 0 X.length (-1) v)) := by
  by_cases c0 : X.length = 0
  · have e : mG X 0 mS0 = .inr mS0 := mG_end (by omega)
    refine Or.inr ⟨[], fun _ => 0, by omega, by simp, fun h hT => ?_, fun h hT => ?_, Or.inl ⟨c0, rfl⟩⟩
    · obtain ⟨h', a1, a2, -, a4, a5⟩ := rule_classGood hX e (fun z => by have := z.1; omega) hT
      exact ⟨h', a1, a2, a4, a5⟩
    · obtain ⟨h1, b1, b2, b3, b4, b5⟩ := rp_begin hT hX.1 40
      have A : Ag [1017] h1 (rb_sF h1 49 17 0) := Ag_sF (by decide) (Ag_refl _ _)
      have M1 := rp_M_ag b2 A (by decide)
      refine ⟨rb_sF h1 49 17 0, ?_, TXm_e b3 A (by decide), Ag_trans b5 (AgS (by decide) A)⟩
      unfold fM_readRule fM_readRule_0 fM_readRule_24
      simp only [rb_lt]
      rw [show fM_beginText 40 h = h1 from b1, M1.2.2.2.1, c0, if_pos (by decide), rp_right M1 hX (by omega), if_neg (by omega)]
  · have D := (rp_desc hX rb_deep 0 0 (by omega) (by omega)).2.2.2 (by rw [rb_deep_eq]; omega) [] [] 0 (fun _ => false) (fun a ha => nomatch ha) rfl
    have run : ∀ h, TXm h X → ∃ h1, Ag rdL h h1 ∧ rp_M h1 52 X 40 0 (-1) ∧ TXm h1 [] ∧ fM_readRule h = (fR_held_product_sum_thing rb_deep 0 (nI 0) h1).bind fun u5 => some ((fM_wasRight u5.2).1, (fM_wasRight u5.2).2) := fun h hT => by
      obtain ⟨h1, b1, b2, b3, b4, b5⟩ := rp_begin hT hX.1 40
      have A : Ag [1017] h1 (rb_sF h1 49 17 0) := Ag_sF (by decide) (Ag_refl _ _)
      have M1 := rp_M_ag b2 A (by decide)
      have := hX.1
      refine ⟨rb_sF h1 49 17 0, Ag_trans b5 (AgS (by decide) A), M1, TXm_e b3 A (by decide), ?_⟩
      unfold fM_readRule fM_readRule_0 fM_readRule_24
      simp only [rb_lt]
      rw [show fM_beginText 40 h = h1 from b1, M1.2.2.2.1, if_neg (show ¬ nI X.length ≤ (0 : Int32) from nI_ge (a := 0) (by omega) (by omega))]
      rfl
    have lx := hX.1
    rcases D with ⟨q, o', W, g', c', C, v, ⟨e1, e2, e3, e4, e5, e6, e7, e8, e9⟩, eO⟩ | ⟨q, e0, e1, e2, eO⟩
    · rw [List.append_nil] at e3
      have e5' : mAll W o' = C := by rw [e5, List.append_nil]
      by_cases cq : q < X.length
      · refine Or.inl ⟨q, by omega, fun h hT => rule_classBad hX ?_ hT, fun h hT => ?_⟩
        · by_cases cq2 : q < min X.length 40
          · refine Or.inl (e3.trans (mG_none cq2 (take_none hX cq2 e9 (Or.inr rfl))))
          · exact Or.inr ⟨by omega, _, e3.trans (mG_end cq2), by omega, Or.inr (Or.inr (by omega))⟩
        · obtain ⟨h1, a1, a2, a3, a4⟩ := run h hT
          obtain ⟨x, h2, r1, r2, r3, r4⟩ := eO h1 52 a2
          have e := rp_right r2 hX (by omega)
          rw [if_pos cq] at e
          refine ⟨rb_sF h2 49 12 (nI q), ?_, by rw [hF_sF, if_pos ⟨rfl, rfl⟩], TXm_e (TXm_e a3 r3 (by decide)) (L := [1012]) (Ag_sF (by decide) (Ag_refl _ _)) (by decide), Ag_sF (by decide) (Ag_trans a1 (AgS (by decide) r3))⟩
          rw [a4, r1, Option.bind_some, e]
      · have eq : q = X.length := by omega
        have e' : mG X 0 mS0 = .inr (o', W, 0, g', false, c') := e3.trans (mG_end (by omega))
        have nb : ¬ mBad X (o', W, 0, g', false, c') := fun z => by
          rcases z.2 with z | z | z
          · cases z
          · exact absurd z (Nat.lt_irrefl _)
          · omega
        have eC : (mRel 1 o' W).1 = C := by
          have := mRel_all 1 W o' [] e4 (fun a ha => nomatch ha)
          rw [List.append_nil] at this
          rw [this]
          exact e5'
        refine Or.inr ⟨C.reverse, v, by omega, ?_, fun h hT => ?_, fun h hT => ?_, Or.inr ⟨by omega, ?_, fun th => e6 th [], ?_⟩⟩
        · rw [List.length_reverse, ← eC]
          have l1 := mRel_len 1 W o'
          have : C.length ≤ 40 := by
            have k : ∀ (k p : Nat) (s : sM) (s' : sM), p + k ≤ 40 → s.2.2.1 ≤ 4 → mGo (sgX X) k p s = .inr s' → s'.1.length + s'.2.1.length ≤ s.1.length + s.2.1.length + k := by
              intro k
              induction k with
              | zero => intro p s s' _ _ e; cases e; omega
              | succ k ih =>
                intro p s s' hp hd e
                cases em : mTake s (sgX X p) with
                | none => rw [mGo_none em] at e; cases e
                | some s1 =>
                  rw [mGo_some em] at e
                  obtain ⟨o, w, d, g, n, c⟩ := s
                  have m := mTake_len hd em
                  have := ih (p + 1) s1 s' (by omega) m.2 e
                  have m1 := m.1
                  dsimp only
                  omega
            have l2 := k _ 0 mS0 _ (by omega) (by decide) e'
            have l3 : mS0.1.length + mS0.2.1.length = 0 := rfl
            dsimp only at l2
            rw [eC] at l1
            omega
          rw [eC]
          exact this
        · obtain ⟨h', a1, a2, -, a4, a5⟩ := rule_classGood hX e' nb hT
          dsimp only at a4 a5
          rw [eC] at a4 a5
          exact ⟨h', a1, a2, a4, a5⟩
        · obtain ⟨h1, a1, a2, a3, a4⟩ := run h hT
          obtain ⟨x, h2, r1, r2, r3, r4⟩ := eO h1 52 a2
          have e := rp_right r2 hX (by omega)
          rw [if_neg cq] at e
          refine ⟨h2, ?_, TXm_e a3 r3 (by decide), Ag_trans a1 (AgS (by decide) r3)⟩
          rw [a4, r1, Option.bind_some, e]
        · rw [List.length_reverse]
          exact List.length_pos_iff.mpr e7
        · rw [eq] at eO
          exact eO
    · refine Or.inl ⟨q, by omega, fun h hT => rule_classBad hX ?_ hT, fun h hT => ?_⟩
      · rcases e2 with z | ⟨z1, s', z2, z3⟩
        · exact Or.inl z
        · exact Or.inr ⟨z1, s', z2, by omega, z3.elim Or.inl (fun z => Or.inr (Or.inl z))⟩
      · obtain ⟨h1, a1, a2, a3, a4⟩ := run h hT
        obtain ⟨x, h2, r1, r2, r3, r4⟩ := eO h1 52 a2
        have bad : nI q ≠ -1 := fun y => m1_nI (show q < 2 ^ 31 by omega) y.symm
        refine ⟨h2, ?_, r2.2.2.2.2.2.2.1, TXm_e a3 r3 (by decide), Ag_trans a1 (AgS (by decide) r3)⟩
        rw [a4, r1, Option.bind_some, rp_right2 r2 hX bad]
/-- the rule that has been read -/
theorem RuC_read {h : rb_H} {ru : Nat} {C : List Int32} {v : (Nat → Int32) → Int32} (hru : ru ≠ 49) (hlen : rb_len (ru + 5) = 7) (hC : C.length ≤ 40) (h5 : rb_hF h ru 5 = nI C.length) (hcode : ∀ i, i < C.length → rb_hI h (ru + 1) i = C.getD i 0) (hc : (X.length = 0 ∧ C = []) ∨ (0 < X.length ∧ 0 < C.length ∧ ∀ th, xs th C [] = [v th])) : RuC h ru (ruOf X.length v) := by
  unfold ruOf
  rcases hc with ⟨c1, rfl⟩ | ⟨c1, c2, c3⟩
  · rw [if_pos c1]
    exact ⟨fun _ => h5, fun z => nomatch z⟩
  · rw [if_neg (by omega)]
    exact RuC_of hru hlen c2 hC h5 hcode c3
theorem RuM_read {h : rb_H} {a : Nat} {v : (Nat → Int32) → Int32} (ha : rb_hR h 1 = a) (ha2 : a = 55 ∨ a = 56) (hl : X.length ≤ 40) (h16 : rb_hF h 49 16 = nI X.length) (hx : ∀ i, i < X.length → rb_hI h a i = rb_i2b (nI (X.getD i 0))) (hc : X.length = 0 ∨ rp_O (fR_held_product_sum_thing rb_deep 0 0) X 0 X.length (-1) v) : RuM h (ruOf X.length v) := by
  unfold ruOf
  by_cases c : X.length = 0
  · rw [if_pos c]
    refine ⟨fun _ => ?_, fun z => nomatch z⟩
    rw [h16, c]
    decide
  · rw [if_neg c]
    have hO := hc.resolve_left c
    subst ha
    refine ⟨(fun z => nomatch z), fun _ => ⟨?_, ?_, ha2, fun h' th e0 e1 e2 e3 e4 e5 e6 e7 => ?_⟩⟩
    · rw [h16]
      exact nI_ge (a := 0) (by omega) (by omega)
    · rcases ha2 with z | z <;> rw [z] <;> decide +kernel
    · have M : rp_M h' (rb_hR h 1) X 40 0 (-1) := by
        refine ⟨e0, Or.inr ha2, ?_, by rw [e2, h16], e3, e4, e5, fun i hi => by rw [e1 i]; exact hx i hi⟩
        have : rb_len (rb_hR h 1) = 40 := by
          rcases ha2 with z | z <;> rw [z] <;> decide +kernel
        omega
      obtain ⟨x, h'', r1, r2, r3, r4⟩ := hO h' _ M
      refine ⟨h'', ?_, r3⟩
      rw [r1, r4 rfl]
      have : thM h' = cutT th := by
        funext i
        unfold thM cutT
        by_cases hi : i < 7
        · rw [if_pos hi, if_pos hi, e6, if_neg (by decide), e7 i hi]
        · rw [if_neg hi, if_neg hi]
      rw [this]
/-- a rule copied -/
theorem C_ruCopy {h : rb_H} {C : List Int32} (hC : C.length ≤ 40) (h5 : rb_hF h 11 5 = nI C.length) (hcode : ∀ i, i < C.length → rb_hI h 12 i = C.getD i 0) : ∃ h', fU_copyFrom 5 11 h = some h' ∧ Ag [5, 6] h h' ∧ rb_hF h' 5 5 = nI C.length ∧ ∀ i, i < C.length → rb_hI h' 6 i = C.getD i 0 := by
  refine ⟨_, rfl, Ag_sF (by decide) (Ag_cp (by decide) (Ag_refl _ _)), ?_, fun i hi => ?_⟩
  · simp [hI_sI, hI_sJ, hI_sF, hI_sR, hI_cp, hJ_sI, hJ_sJ, hJ_sF, hJ_sR, hJ_cp, hF_sI, hF_sJ, hF_sF, hF_sR, hF_cp, hR_sI, hR_sJ, hR_sF, hR_sR, hR_cp, h5]
  · simp only [hI_sI, hI_sJ, hI_sF, hI_sR, hI_cp, hJ_sI, hJ_sJ, hJ_sF, hJ_sR, hJ_cp, hF_sI, hF_sJ, hF_sF, hF_sR, hF_cp, hR_sI, hR_sJ, hR_sF, hR_sR, hR_cp]
    simpa [show i < 40 by omega] using hcode i hi
/-- the model's text copied into a rule -/
theorem M_ruCopy {h : rb_H} {a : Nat} {f : Int32 → rb_H → Option ((Int32 × rb_H) ⊕ rb_H)} (ha : rb_hR h 1 = a) (ha2 : a = 55 ∨ a = 56) (hl : X.length ≤ 40) (hx : ∀ i, i < X.length → rb_hI h 52 i = rb_i2b (nI (X.getD i 0)))
    (hf : ∀ v h, f v h = if nI X.length ≤ v then some (.inr h) else if rb_ty (rb_hR h 1) = 13 then if rb_oob v 80 then none else if rb_oob v (rb_len (rb_hR h 1)) then none else some (.inl (v + 1, rb_sI h (rb_hR h 1) v.toNatClampNeg (vp_nar .byte (rb_hI h 52 v.toNatClampNeg)))) else none) : ∃ x, rb_iter rb_fuel (fun s => f s.1 s.2) ((0 : Int32), h) = some x ∧ Ag [a] h x ∧ ∀ i, i < X.length → rb_hI x a i = rb_i2b (nI (X.getD i 0)) := by
  have la : rb_len a = 40 := by
    rcases ha2 with z | z <;> rw [z] <;> decide +kernel
  have ta : rb_ty a = 13 := by
    rcases ha2 with z | z <;> rw [z] <;> decide +kernel
  have na : 52 ∉ [a] := by
    rcases ha2 with z | z <;> rw [z] <;> decide
  have nr : 2000 + 1 ∉ [a] := by
    rcases ha2 with z | z <;> rw [z] <;> decide
  refine rb_runP (fun n s => s.1 = nI n ∧ Ag [a] h s.2 ∧ ∀ i, i < n → rb_hI s.2 a i = rb_i2b (nI (X.getD i 0))) _ X.length ⟨rfl, Ag_refl _ _, fun i hi => absurd hi (Nat.not_lt_zero _)⟩ (by omega) ?_ ?_
  · rintro n ⟨w, h1⟩ hn ⟨e, q1, q2⟩
    dsimp only at e q1 q2 ⊢
    subst e
    rw [hf, if_neg (nI_ge hn (by omega)), AgR q1 nr, ha, if_pos ta, if_neg (oob_n (show n < 80 by omega) (by omega)), la, if_neg (oob_n (show n < 40 by omega) (by omega)), cl_n (by omega), AgI q1 na, hx n hn, nb2, nI_1]
    refine ⟨_, rfl, rfl, Ag_sI (by simp) q1, fun i hi => ?_⟩
    rw [hI_sI]
    by_cases z : i = n
    · subst z
      rw [if_pos ⟨rfl, rfl⟩]
    · rw [if_neg (fun y => z y.2)]
      exact q2 i (by omega)
  · rintro ⟨w, h1⟩ ⟨e, q1, q2⟩
    dsimp only at e q1 q2 ⊢
    subst e
    rw [hf, if_pos (nI_le (Nat.le_refl _) (by omega))]
    exact ⟨_, rfl, q1, q2⟩
end
