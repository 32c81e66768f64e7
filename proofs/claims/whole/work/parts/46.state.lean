/-! the whole state; what the class holds of it, what the model -/
def B0 : sBd := (fun _ => 0, fun _ => 0, fun _ => 0, fun _ => 0, 0, 0, 0, 0)
/-- board, rule, text, row, past boards (the oldest first), kept ones, what was heard, what was seen -/
abbrev sSt : Type := sBd × sRu × List Nat × List Int64 × List sBd × (Nat → Option sBd) × List (Nat × Nat) × List (Nat × Nat)
def zB (σ : sSt) : sBd := σ.1
def zR (σ : sSt) : sRu := σ.2.1
def zX (σ : sSt) : List Nat := σ.2.2.1
def zT (σ : sSt) : List Int64 := σ.2.2.2.1
def zP (σ : sSt) : List sBd := σ.2.2.2.2.1
def zK (σ : sSt) : Nat → Option sBd := σ.2.2.2.2.2.1
def zH (σ : sSt) : List (Nat × Nat) := σ.2.2.2.2.2.2.1
def zS (σ : sSt) : List (Nat × Nat) := σ.2.2.2.2.2.2.2
def yB (σ : sSt) (B : sBd) : sSt := (B, σ.2)
def yR (σ : sSt) (ρ : sRu) : sSt := (σ.1, ρ, σ.2.2)
def yX (σ : sSt) (X : List Nat) : sSt := (σ.1, σ.2.1, X, σ.2.2.2)
def yT (σ : sSt) (R : List Int64) : sSt := (σ.1, σ.2.1, σ.2.2.1, R, σ.2.2.2.2)
def yP (σ : sSt) (P : List sBd) : sSt := (σ.1, σ.2.1, σ.2.2.1, σ.2.2.2.1, P, σ.2.2.2.2.2)
def yK (σ : sSt) (K : Nat → Option sBd) : sSt := (σ.1, σ.2.1, σ.2.2.1, σ.2.2.2.1, σ.2.2.2.2.1, K, σ.2.2.2.2.2.2)
def yH (σ : sSt) (H : List (Nat × Nat)) : sSt := (σ.1, σ.2.1, σ.2.2.1, σ.2.2.2.1, σ.2.2.2.2.1, σ.2.2.2.2.2.1, H, σ.2.2.2.2.2.2.2)
def yS (σ : sSt) (S : List (Nat × Nat)) : sSt := (σ.1, σ.2.1, σ.2.2.1, σ.2.2.2.1, σ.2.2.2.2.1, σ.2.2.2.2.2.1, σ.2.2.2.2.2.2.1, S)
def TXc (h : rb_H) (X : List Nat) : Prop := rb_hF h 1 1 = nI X.length ∧ ∀ i, i < X.length → rb_hI h 2 i = nI (X.getD i 0)
def TXm (h : rb_H) (X : List Nat) : Prop := rb_hF h 49 4 = nI X.length ∧ ∀ i, i < X.length → rb_hI h 52 i = rb_i2b (nI (X.getD i 0))
def RWc (h : rb_H) (R : List Int64) : Prop := rb_hF h 3 1 = nI R.length ∧ ∀ i, i < R.length → rb_hJ h 4 i = R.getD i 0
def RWm (h : rb_H) (R : List Int64) : Prop := rb_hF h 49 6 = nI R.length ∧ ∀ i, i < R.length → rb_hJ h 53 i = R.getD i 0
/-- a board in one of the model's rows, from a place on: all but how many, and sides -/
def RG (h : rb_H) (a f : Nat) (B : sBd) : Prop := rb_hI h a (f + 24) = nI (bT B) ∧ rb_hI h a (f + 25) = bQ B ∧ rb_hI h a (f + 26) = bM B ∧ ∀ i, i < bN B → rb_hI h a (f + i) = nI (bK B i) ∧ rb_hI h a (f + (8 + i)) = nI (bP B i) ∧ rb_hI h a (f + (16 + i)) = nI (bU B i)
def RN (h : rb_H) (B : sBd) : Prop := rb_hF h 49 2 = nI (bN B) ∧ ∀ i, i < bN B → rb_hI h 51 i = nI (bS B i)
theorem RM_iff {h : rb_H} {a : Nat} {B : sBd} : RM h a B ↔ RN h B ∧ RG h a 0 B := by
  constructor
  · rintro ⟨r1, r2, r3, r4, r5⟩
    refine ⟨⟨r1, fun i hi => (r5 i hi).2.1⟩, by simpa using r2, by simpa using r3, by simpa using r4, fun i hi => ?_⟩
    obtain ⟨q1, q2, q3, q4⟩ := r5 i hi
    exact ⟨by simpa using q1, by simpa using q3, by simpa using q4⟩
  · rintro ⟨⟨r1, s⟩, r2, r3, r4, r5⟩
    refine ⟨r1, by simpa using r2, by simpa using r3, by simpa using r4, fun i hi => ?_⟩
    obtain ⟨q1, q3, q4⟩ := r5 i hi
    exact ⟨by simpa using q1, s i hi, by simpa using q3, by simpa using q4⟩
def PAc (h : rb_H) (P : List sBd) : Prop := ∃ f, f < 12 ∧ rb_hF h 23 1 = nI f ∧ rb_hF h 23 2 = nI P.length ∧ ∀ i, i < P.length → RS h (112 + 6 * ((f + i) % 12)) (P.getD i B0)
def PAm (h : rb_H) (P : List sBd) : Prop := rb_hF h 49 20 = nI P.length ∧ ∀ i, i < P.length → RG h 58 (27 * i) (P.getD i B0)
def KPc (h : rb_H) (K : Nat → Option sBd) : Prop := ∀ i, i < 2 → (K i = none → rb_hI h 26 i = 0) ∧ ∀ b, K i = some b → rb_hI h 26 i = 1 ∧ RS h (184 + 6 * i) b
def KPm (h : rb_H) (K : Nat → Option sBd) (n : Nat) : Prop := ∃ c, c ≤ n ∧ rb_hF h 49 42 = nI c ∧ ∀ i, i < 2 → (K i = none → rb_hI h 91 i = 0) ∧ ∀ b, K i = some b → rb_hI h 91 i = 1 ∧ RG h 90 (27 * i) b ∧ ∃ k, k ≤ c ∧ rb_hI h 92 i = nI k ∧ (k = c ↔ bN b = n)
def FAc (h : rb_H) (o most : Nat) (H : List (Nat × Nat)) : Prop := rb_hF h o 0 = nI most ∧ rb_hF h o 3 = nI H.length ∧ ∀ i, i < H.length → rb_hI h (o + 1) i = nI (H.getD i (0, 0)).1 ∧ rb_hI h (o + 2) i = nI (H.getD i (0, 0)).2
def FAm (h : rb_H) (f a b : Nat) (H : List (Nat × Nat)) : Prop := rb_hF h 49 f = nI H.length ∧ ∀ i, i < H.length → rb_hI h a i = nI (H.getD i (0, 0)).1 ∧ rb_hI h b i = nI (H.getD i (0, 0)).2
def hiV (w : Nat) : Nat := if w = 0 then 5 else if w = 1 then 1 else if w = 3 then 2 else 9
/-- boards of one game: as many pieces, the same sides -/
def alB (B b : sBd) : Prop := bN b ≤ bN B ∧ ∀ j, j < bN b → bS b j = bS B j
def WS (σ : sSt) : Prop := WF (zB σ) ∧ ((zX σ).length ≤ 80 ∧ ∀ c, c ∈ zX σ → c < 256) ∧ (zT σ).length ≤ 16 ∧ ((zP σ).length ≤ 12 ∧ ∀ b, b ∈ zP σ → WF b ∧ bN b = bN (zB σ) ∧ alB (zB σ) b) ∧ (∀ i, i < 2 → ∀ b, zK σ i = some b → WF b ∧ alB (zB σ) b) ∧ ((zH σ).length ≤ 12 ∧ ∀ q, q ∈ zH σ → q.1 ≤ 4 ∧ q.2 ≤ hiV q.1) ∧ ((zS σ).length ≤ 10 ∧ ∀ q, q ∈ zS σ → q.1 ≤ 2 ∧ q.2 ≤ 20)
def IC (h : rb_H) (σ : sSt) : Prop := RS h 94 (zB σ) ∧ RuC h 5 (zR σ) ∧ TXc h (zX σ) ∧ RWc h (zT σ) ∧ PAc h (zP σ) ∧ KPc h (zK σ) ∧ FAc h 17 12 (zH σ) ∧ FAc h 20 10 (zS σ)
/-- the model's two texts of rules, each in its place -/
def RX (h : rb_H) : Prop := rb_hR h 1 = 55 ∧ rb_hR h 2 = 56
def IM (h : rb_H) (σ : sSt) : Prop := RM h 50 (zB σ) ∧ RuM h (zR σ) ∧ TXm h (zX σ) ∧ RWm h (zT σ) ∧ PAm h (zP σ) ∧ KPm h (zK σ) (bN (zB σ)) ∧ FAm h 35 84 85 (zH σ) ∧ FAm h 38 86 87 (zS σ) ∧ RX h
/-- cells of the class, of the model -/
def cC : List Nat := List.range 49 ++ List.range' 94 114
def cM : List Nat := List.range' 49 44 ++ List.range' 1000 46 ++ [2000, 2001, 2002]
def pP : List Nat := 23 :: ((List.range 12).map fun q => [112 + 6 * q, 112 + 6 * q + 1, 112 + 6 * q + 2, 112 + 6 * q + 3, 112 + 6 * q + 4]).flatten
def pK : List Nat := [26, 184, 185, 186, 187, 188, 190, 191, 192, 193, 194]
def NL (A L : List Nat) : Bool := A.all fun x => !L.contains x
theorem NL_at {A L : List Nat} (h : NL A L = true) {x : Nat} (hx : x ∈ A) : x ∉ L := by
  unfold NL at h
  rw [List.all_eq_true] at h
  have := h x hx
  simpa using this
def SL (L A : List Nat) : Bool := L.all fun x => A.contains x
theorem SL_at {A L : List Nat} (h : SL L A = true) {x : Nat} (hx : x ∈ L) : x ∈ A := by
  unfold SL at h
  rw [List.all_eq_true] at h
  have := h x hx
  simpa using this
section
variable {L : List Nat} {h h' : rb_H}
theorem TXc_ag {X : List Nat} (hr : TXc h X) (hA : Ag L h h') (hL : NL [1, 2] L = true) : TXc h' X :=
  ⟨(AgF (a := 1) (i := 1) hA (NL_at hL (by decide))).trans hr.1, fun i hi => (AgI hA (NL_at hL (by decide)) i).trans (hr.2 i hi)⟩
theorem TXm_ag {X : List Nat} (hr : TXm h X) (hA : Ag L h h') (hL : NL [1004, 52] L = true) : TXm h' X :=
  ⟨(AgF (a := 49) (i := 4) hA (NL_at hL (by decide))).trans hr.1, fun i hi => (AgI hA (NL_at hL (by decide)) i).trans (hr.2 i hi)⟩
theorem RWc_ag {R : List Int64} (hr : RWc h R) (hA : Ag L h h') (hL : NL [3, 4] L = true) : RWc h' R :=
  ⟨(AgF (a := 3) (i := 1) hA (NL_at hL (by decide))).trans hr.1, fun i hi => (AgJ hA (NL_at hL (by decide)) i).trans (hr.2 i hi)⟩
theorem RWm_ag {R : List Int64} (hr : RWm h R) (hA : Ag L h h') (hL : NL [1006, 53] L = true) : RWm h' R :=
  ⟨(AgF (a := 49) (i := 6) hA (NL_at hL (by decide))).trans hr.1, fun i hi => (AgJ hA (NL_at hL (by decide)) i).trans (hr.2 i hi)⟩
theorem RG_ag {a f : Nat} {B : sBd} (hr : RG h a f B) (hA : Ag L h h') (hL : a ∉ L) : RG h' a f B :=
  ⟨(AgI hA hL _).trans hr.1, (AgI hA hL _).trans hr.2.1, (AgI hA hL _).trans hr.2.2.1, fun i hi => ⟨(AgI hA hL _).trans (hr.2.2.2 i hi).1, (AgI hA hL _).trans (hr.2.2.2 i hi).2.1, (AgI hA hL _).trans (hr.2.2.2 i hi).2.2⟩⟩
theorem RN_ag {B : sBd} (hr : RN h B) (hA : Ag L h h') (hL : NL [1002, 51] L = true) : RN h' B :=
  ⟨(AgF (a := 49) (i := 2) hA (NL_at hL (by decide))).trans hr.1, fun i hi => (AgI hA (NL_at hL (by decide)) i).trans (hr.2 i hi)⟩
theorem PAc_ag {P : List sBd} (hr : PAc h P) (hA : Ag L h h') (hL : NL pP L = true) : PAc h' P := by
  obtain ⟨f, hf, r1, r2, r3⟩ := hr
  have f23 : ∀ k, fid 23 k ∉ L := fun k => NL_at hL (x := 23) (by decide)
  refine ⟨f, hf, (AgF hA (f23 1)).trans r1, (AgF hA (f23 2)).trans r2, fun i hi => RS_ag (r3 i hi) hA (by omega) (fun x hx => NL_at hL ?_)⟩
  have : (f + i) % 12 < 12 := Nat.mod_lt _ (by decide)
  generalize (f + i) % 12 = q at *
  unfold pP
  refine List.mem_cons_of_mem _ (List.mem_flatten.mpr ⟨_, List.mem_map.mpr ⟨q, List.mem_range.mpr this, rfl⟩, hx⟩)
theorem PAm_ag {P : List sBd} (hr : PAm h P) (hA : Ag L h h') (hL : NL [1020, 58] L = true) : PAm h' P :=
  ⟨(AgF (a := 49) (i := 20) hA (NL_at hL (by decide))).trans hr.1, fun i hi => RG_ag (hr.2 i hi) hA (NL_at hL (by decide))⟩
theorem KPc_ag {K : Nat → Option sBd} (hr : KPc h K) (hA : Ag L h h') (hL : NL pK L = true) : KPc h' K := by
  intro i hi
  obtain ⟨r1, r2⟩ := hr i hi
  have e := AgI hA (NL_at hL (x := 26) (by decide)) i
  refine ⟨fun q => e.trans (r1 q), fun b hb => ⟨e.trans (r2 b hb).1, RS_ag (r2 b hb).2 hA (by omega) (fun x hx => NL_at hL ?_)⟩⟩
  unfold sIds at hx
  unfold pK
  simp only [List.mem_cons, List.not_mem_nil, or_false] at hx ⊢
  omega
theorem KPm_ag {K : Nat → Option sBd} {n : Nat} (hr : KPm h K n) (hA : Ag L h h') (hL : NL [1042, 90, 91, 92] L = true) : KPm h' K n := by
  obtain ⟨c, hc, r1, r2⟩ := hr
  refine ⟨c, hc, (AgF (a := 49) (i := 42) hA (NL_at hL (by decide))).trans r1, fun i hi => ?_⟩
  obtain ⟨q1, q2⟩ := r2 i hi
  have e := AgI hA (NL_at hL (x := 91) (by decide)) i
  refine ⟨fun q => e.trans (q1 q), fun b hb => ?_⟩
  obtain ⟨w1, w2, k, w3, w4, w5⟩ := q2 b hb
  exact ⟨e.trans w1, RG_ag w2 hA (NL_at hL (by decide)), k, w3, (AgI hA (NL_at hL (x := 92) (by decide)) i).trans w4, w5⟩
theorem FAc_ag {o most : Nat} {H : List (Nat × Nat)} (hr : FAc h o most H) (hA : Ag L h h') (h0 : o ≠ 49) (hL : NL [o, o + 1, o + 2] L = true) : FAc h' o most H := by
  have f : ∀ k, fid o k ∉ L := fun k => by unfold fid; rw [if_neg h0]; exact NL_at hL (by simp)
  exact ⟨(AgF hA (f 0)).trans hr.1, (AgF hA (f 3)).trans hr.2.1, fun i hi => ⟨(AgI hA (NL_at hL (by simp)) i).trans (hr.2.2 i hi).1, (AgI hA (NL_at hL (by simp)) i).trans (hr.2.2 i hi).2⟩⟩
theorem FAm_ag {f a b : Nat} {H : List (Nat × Nat)} (hr : FAm h f a b H) (hA : Ag L h h') (hL : NL [1000 + f, a, b] L = true) : FAm h' f a b H :=
  ⟨(AgF hA (NL_at hL (by simp [fid]))).trans hr.1, fun i hi => ⟨(AgI hA (NL_at hL (by simp)) i).trans (hr.2 i hi).1, (AgI hA (NL_at hL (by simp)) i).trans (hr.2 i hi).2⟩⟩
theorem RX_ag (hr : RX h) (hA : Ag L h h') (hL : NL [2001, 2002] L = true) : RX h' := ⟨(AgR hA (NL_at hL (by decide))).trans hr.1, (AgR hA (NL_at hL (by decide))).trans hr.2⟩
theorem RSn_ag {B : sBd} (hr : RS h 94 B) (hA : Ag L h h') (hL : NL [94, 95, 96, 97, 98] L = true) : RS h' 94 B := RS_ag hr hA (by decide) (fun _ hx => NL_at hL hx)
theorem RMn_ag {B : sBd} (hr : RM h 50 B) (hA : Ag L h h') (hL : NL [1002, 50, 51] L = true) : RM h' 50 B := RM_ag hr hA (fun _ hx => NL_at hL hx)
theorem RuCn_ag {ρ : sRu} (hr : RuC h 5 ρ) (hA : Ag L h h') (hL : NL [5, 6] L = true) : RuC h' 5 ρ := RuC_ag hr hA (by decide) ⟨NL_at hL (by decide), NL_at hL (by decide)⟩
theorem RuMn_ag {ρ : sRu} (hr : RuM h ρ) (hA : Ag L h h') (hL : NL [1016, 2001, 55, 56] L = true) : RuM h' ρ := RuM_ag hr hA (fun _ hx => NL_at hL hx)
/-- what a call of the class that changes the row alone, and scratch cells, leaves -/
def pC0 : List Nat := [94, 95, 96, 97, 98, 5, 6, 1, 2] ++ pP ++ pK ++ [17, 18, 19, 20, 21, 22]
def pM0 : List Nat := [1002, 50, 51, 1016, 2001, 55, 56, 1004, 52, 1020, 58, 1042, 90, 91, 92, 1035, 84, 85, 1038, 86, 87, 2002]
theorem NL_sub {A A' L : List Nat} (h : NL A L = true) (hs : SL A' A = true) : NL A' L = true := by
  unfold NL
  rw [List.all_eq_true]
  intro x hx
  have := NL_at h (SL_at hs hx)
  simpa using this
theorem IC_row {σ : sSt} {R : List Int64} (hI : IC h σ) (hA : Ag L h h') (hL : NL pC0 L = true) (hR : RWc h' R) : IC h' (yT σ R) :=
  ⟨RSn_ag hI.1 hA (NL_sub hL (by decide)), RuCn_ag hI.2.1 hA (NL_sub hL (by decide)), TXc_ag hI.2.2.1 hA (NL_sub hL (by decide)), hR, PAc_ag hI.2.2.2.2.1 hA (NL_sub hL (by decide)), KPc_ag hI.2.2.2.2.2.1 hA (NL_sub hL (by decide)), FAc_ag hI.2.2.2.2.2.2.1 hA (by decide) (NL_sub hL (by decide)), FAc_ag hI.2.2.2.2.2.2.2 hA (by decide) (NL_sub hL (by decide))⟩
theorem IM_row {σ : sSt} {R : List Int64} (hI : IM h σ) (hA : Ag L h h') (hL : NL pM0 L = true) (hR : RWm h' R) : IM h' (yT σ R) :=
  ⟨RMn_ag hI.1 hA (NL_sub hL (by decide)), RuMn_ag hI.2.1 hA (NL_sub hL (by decide)), TXm_ag hI.2.2.1 hA (NL_sub hL (by decide)), hR, PAm_ag hI.2.2.2.2.1 hA (NL_sub hL (by decide)), KPm_ag hI.2.2.2.2.2.1 hA (NL_sub hL (by decide)), FAm_ag hI.2.2.2.2.2.2.1 hA (NL_sub hL (by decide)), FAm_ag hI.2.2.2.2.2.2.2.1 hA (NL_sub hL (by decide)), RX_ag hI.2.2.2.2.2.2.2.2 hA (NL_sub hL (by decide))⟩
theorem yT_self (σ : sSt) : yT σ (zT σ) = σ := rfl
/-- scratch cells alone -/
theorem IC_ag {σ : sSt} (hI : IC h σ) (hA : Ag L h h') (hL : NL (3 :: 4 :: pC0) L = true) : IC h' σ := IC_row (R := zT σ) hI hA (NL_sub hL (by decide)) (RWc_ag hI.2.2.2.1 hA (NL_sub hL (by decide)))
theorem IM_ag {σ : sSt} (hI : IM h σ) (hA : Ag L h h') (hL : NL (1006 :: 53 :: pM0) L = true) : IM h' σ := IM_row (R := zT σ) hI hA (NL_sub hL (by decide)) (RWm_ag hI.2.2.2.1 hA (NL_sub hL (by decide)))
theorem IC_cM {σ : sSt} (hI : IC h σ) (hA : Ag cM h h') : IC h' σ := IC_ag hI hA (by decide +kernel)
theorem IM_cC {σ : sSt} (hI : IM h σ) (hA : Ag cC h h') : IM h' σ := IM_ag hI hA (by decide +kernel)
end
/-- class and model answer alike -/
def rb_op (C M : rb_H → Option (Int32 × rb_H)) : Prop := ∀ σ, WS σ → ∃ (r : Int32) (σ' : sSt), WS σ' ∧ (∀ h, IC h σ → ∃ h', C h = some (r, h') ∧ IC h' σ' ∧ Ag cC h h') ∧ ∀ h, IM h σ → ∃ h', M h = some (r, h') ∧ IM h' σ' ∧ Ag cM h h'
theorem rb_op_two {C M : rb_H → Option (Int32 × rb_H)} (ho : rb_op C M) {σ : sSt} {h : rb_H} (hσ : WS σ) (h1 : IC h σ) (h2 : IM h σ) : ∃ r h' h'' σ', C h = some (r, h') ∧ M h' = some (r, h'') ∧ WS σ' ∧ IC h'' σ' ∧ IM h'' σ' := by
  obtain ⟨r, σ', w, c, m⟩ := ho σ hσ
  obtain ⟨h', c1, c2, c3⟩ := c h h1
  obtain ⟨h'', m1, m2, m3⟩ := m h' (IM_cC h2 c3)
  exact ⟨r, h', h'', σ', c1, m1, w, IC_cM c2 m3, m2⟩
