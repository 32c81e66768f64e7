/-! wanders: the model -/
theorem mn_top (c : Nat → Bool) (f : Nat → Nat) : ∀ n, mn c f n ≤ 1000000
  | 0 => Nat.le_refl _
  | n + 1 => by
    have ih := mn_top c f n
    unfold mn
    split
    · rename_i z
      have := z.2
      omega
    · exact ih
theorem M_canWander {h : rb_H} {B : sBd} (hR : RM h 50 B) (hW : WF B) {p s t : Nat} (hp : p < bN B) (hs : s < 25) (ht : t < 25) : fM_canWander (nI p) (nI s) (nI t) h = some (cdB B p s t) := by
  have es : nI s = nI t ↔ s = t := nI_eq (by omega) (by omega)
  unfold fM_canWander fM_canWander_0 fM_canWander_28 cdB
  by_cases c : s = t
  · rw [if_pos (es.mpr c)]
    simp [c]
  · rw [if_neg (fun z => c (es.mp z)), M_isFree hR hW hp ht]
    simp only [Option.bind_some, M_canGo hR hW hp hs ht]
    cases frB B p t <;> cases goB B p s t <;> simp [c]
def wM : List Nat := 60 :: 63 :: mR ++ List.range' 67 7
/-- the model's rows for the days from d on -/
def MRw (h : rb_H) (r : Nat → Nat → Nat) (c : Nat → Nat → Bool) (fr : Nat → Bool) (n d : Nat) : Prop := ∀ j, d ≤ j → j ≤ n → ∀ t, t < 25 → fr t = true → rb_hI h (67 + j) t = nI (wr r c (n - j) j t)
theorem cd_free {B : sBd} {p s t : Nat} (hs : frB B p s = true) (hc : cdB B p s t = true) : frB B p t = true := by
  unfold cdB at hc
  by_cases e : s = t
  · rw [← e]; exact hs
  · simp only [Bool.or_eq_true, decide_eq_true_eq, Bool.and_eq_true] at hc
    exact (hc.resolve_left e).1
theorem M_wIn {h : rb_H} {B : sBd} (hR : RM h 50 B) (hW : WF B) {p k s : Nat} (hp : p < bN B) (hs : s < 25) (hk : k < 6) (v2 : Int32) {f : Nat → Nat} (hf : ∀ t, t < 25 → f t ≤ 1000) (h63 : ∀ t, t < 25 → rb_hI h 63 t = if frB B p t = true then nI (f t) else 1000000) : ∃ x, rb_iter rb_fuel (fun z => fM_wanders_154b (nI p) v2 (nI k) (nI s) z.1 z.2) ((0 : Int32), rb_sI h (67 + k) s 1000000) = some x ∧ (Ag [67 + k] h x ∧ (∀ u, u ≠ s → rb_hI x (67 + k) u = rb_hI h (67 + k) u) ∧ (frB B p s = true → rb_hI x (67 + k) s = nI (mn (cdB B p s) f 25))) := by
  have nm : ∀ y, y ≠ 67 + k → y ∉ [67 + k] := fun y hy => by simpa using hy
  refine rb_runP (fun j z => z.1 = nI j ∧ Ag [67 + k] h z.2 ∧ (∀ u, u ≠ s → rb_hI z.2 (67 + k) u = rb_hI h (67 + k) u) ∧ (frB B p s = true → rb_hI z.2 (67 + k) s = nI (mn (cdB B p s) f j))) _ 25 ⟨rfl, Ag_sI (by simp) (Ag_refl _ _), fun u hu => by rw [hI_sI, if_neg (fun z => hu z.2)], fun _ => by rw [hI_sI, if_pos ⟨rfl, rfl⟩]; rfl⟩ (by omega) ?_ ?_
  · rintro j ⟨w, h1⟩ hj ⟨e, hA, hO, hV⟩
    dsimp only at e hA hO hV ⊢
    subst e
    have R1 : RM h1 50 B := RM_ag hR hA (fun x hx => nm x (by simp only [List.mem_cons, List.not_mem_nil, or_false] at hx; omega))
    have f63 : rb_hI h1 63 j = if frB B p j = true then nI (f j) else 1000000 := (AgI hA (nm 63 (by omega)) j).trans (h63 j hj)
    have fj := hf j hj
    have top := mn_top (cdB B p s) f j
    have skip : (frB B p s = true → ¬ (cdB B p s j = true ∧ f j < mn (cdB B p s) f j)) → ∃ z', fM_wanders_208l154 (nI p) v2 (nI k) (nI s) (nI j) h1 = some (Sum.inl z') ∧ (z'.1 = nI (j + 1) ∧ Ag [67 + k] h z'.2 ∧ (∀ u, u ≠ s → rb_hI z'.2 (67 + k) u = rb_hI h (67 + k) u) ∧ (frB B p s = true → rb_hI z'.2 (67 + k) s = nI (mn (cdB B p s) f (j + 1)))) := by
      intro q
      unfold fM_wanders_208l154
      refine ⟨_, rfl, nI_1 _, hA, hO, fun hfr => ?_⟩
      have q1 : mn (cdB B p s) f (j + 1) = mn (cdB B p s) f j := if_neg (q hfr)
      rw [q1]
      exact hV hfr
    unfold fM_wanders_154b
    simp only [if_neg (show ¬ (25 : Int32) ≤ nI j from nI_ge (b := 25) hj (by omega)), if_neg (oob_n hj (by omega)), if_neg (oob_n (show k < 7 by omega) (by omega)), if_neg (oob_n hs (by omega)), cl_n (show j < 2 ^ 31 by omega), cl_n (show k < 2 ^ 31 by omega), cl_n (show s < 2 ^ 31 by omega), ra66 _ (show k < 7 by omega), M_canWander R1 hW hp hs hj, Option.bind_some]
    by_cases c1 : rb_hI h1 (67 + k) s ≤ rb_hI h1 63 j
    · rw [if_pos c1]
      refine skip (fun hfr z => ?_)
      have fr2 := cd_free hfr z.1
      rw [hV hfr, f63, if_pos fr2, nI_leI (by omega) (by omega)] at c1
      omega
    · rw [if_neg c1]
      by_cases c2 : cdB B p s j = true
      · rw [if_pos c2]
        unfold fM_wanders_208l154
        refine ⟨_, rfl, nI_1 _, Ag_sI (by simp) hA, fun u hu => by rw [hI_sI, if_neg (fun z => hu z.2)]; exact hO u hu, fun hfr => ?_⟩
        have fr2 := cd_free hfr c2
        rw [hV hfr, f63, if_pos fr2, nI_leI (by omega) (by omega)] at c1
        have q1 : mn (cdB B p s) f (j + 1) = f j := if_pos ⟨c2, by omega⟩
        rw [hI_sI, if_pos ⟨rfl, rfl⟩, f63, if_pos fr2, q1]
      · rw [if_neg c2]
        exact skip (fun _ z => c2 z.1)
  · rintro ⟨w, h1⟩ ⟨e, hA, hO, hV⟩
    dsimp only at e hA hO hV ⊢
    subst e
    unfold fM_wanders_154b
    rw [if_pos (by decide)]
    exact ⟨_, rfl, hA, hO, hV⟩
theorem M_day {h : rb_H} {B : sBd} {ρ : sRu} (hR : RM h 50 B) (hW : WF B) (hU : RuM h ρ) {p n d : Nat} (hp : p < bN B) (hd : d < n) (hn : n ≤ 6) (hM : MRw h (rD ρ B p) (cdB B p) (frB B p) n (d + 1)) : ∃ h', fM_wanders_66b (nI p) (nI n) (nI d) h = some (.inl (nI d + (-1), h')) ∧ MRw h' (rD ρ B p) (cdB B p) (frB B p) n d ∧ Ag wM h h' := by
  have hd6 : d < 6 := by omega
  have e1 : (nI d + 1 : Int32) = nI (d + 1) := nI_1 d
  have cost : ∀ t, t < 25 → rD ρ B p d t + wr (rD ρ B p) (cdB B p) (n - (d + 1)) (d + 1) t ≤ 1000 := fun t ht => by
    have := wr_le (rD_le ρ B p) (cdB_self (B := B) (p := p)) (n - (d + 1)) (d + 1) t ht
    have := rD_le ρ B p d t
    omega
  have a : ∃ x, rb_iter rb_fuel (fun z => fM_wanders_73b (nI p) (nI n) (nI d) z.1 z.2) ((0 : Int32), h) = some x ∧ (Ag (60 :: 63 :: mR) h x ∧ ∀ t, t < 25 → rb_hI x 63 t = if frB B p t = true then nI (rD ρ B p d t + wr (rD ρ B p) (cdB B p) (n - (d + 1)) (d + 1) t) else 1000000) := by
    refine rb_runP (fun k z => z.1 = nI k ∧ Ag (60 :: 63 :: mR) h z.2 ∧ ∀ t, t < k → rb_hI z.2 63 t = if frB B p t = true then nI (rD ρ B p d t + wr (rD ρ B p) (cdB B p) (n - (d + 1)) (d + 1) t) else 1000000) _ 25 ⟨rfl, Ag_refl _ _, fun t ht => absurd ht (Nat.not_lt_zero _)⟩ (by omega) ?_ ?_
    · rintro k ⟨w, h1⟩ hk ⟨e, hA, hI⟩
      dsimp only at e hA hI ⊢
      subst e
      have R1 := RMn_ag hR hA (by decide)
      have U1 := RuMn_ag hU hA (by decide)
      have fin : ∀ (h2 : rb_H) (v : Int32), Ag (60 :: mR) h1 h2 → v = (if frB B p k = true then nI (rD ρ B p d k + wr (rD ρ B p) (cdB B p) (n - (d + 1)) (d + 1) k) else 1000000) → ∃ z', fM_wanders_122l73 (nI p) (nI n) (nI d) (nI k) v (nI k) h2 = some (Sum.inl z') ∧ (z'.1 = nI (k + 1) ∧ Ag (60 :: 63 :: mR) h z'.2 ∧ ∀ t, t < k + 1 → rb_hI z'.2 63 t = if frB B p t = true then nI (rD ρ B p d t + wr (rD ρ B p) (cdB B p) (n - (d + 1)) (d + 1) t) else 1000000) := by
        intro h2 v hA2 hv
        unfold fM_wanders_122l73
        rw [if_neg (oob_n hk (by omega)), cl_n (by omega)]
        refine ⟨_, rfl, nI_1 _, Ag_sI (by decide) (Ag_trans hA (AgS (by decide) hA2)), fun t ht => ?_⟩
        rw [hI_sI]
        by_cases e : t = k
        · rw [if_pos ⟨rfl, e⟩, e]; exact hv
        · rw [if_neg (fun z => e z.2), AgI hA2 (by decide)]
          exact hI t (by omega)
      unfold fM_wanders_73b
      rw [if_neg (show ¬ (25 : Int32) ≤ nI k from nI_ge (b := 25) hk (by omega)), M_isFree R1 hW hp hk]
      simp only [Option.bind_some]
      cases hf : frB B p k
      · rw [if_neg (by decide)]
        exact fin h1 _ (Ag_refl _ _) (by rw [hf]; rfl)
      · obtain ⟨h2, d1, d2⟩ := M_rentBehind R1 hW U1 hp hk (nI d)
        have r67 : rb_hI h2 (67 + (d + 1)) k = nI (wr (rD ρ B p) (cdB B p) (n - (d + 1)) (d + 1) k) := by
          have na : ∀ y, 67 ≤ y → y < 100 → y ∉ (60 :: mR) ∧ y ∉ (60 :: 63 :: mR) := fun y a b => by unfold mR; simp only [List.mem_cons, List.not_mem_nil, or_false]; omega
          rw [AgI d2 (na _ (by omega) (by omega)).1, AgI hA (na _ (by omega) (by omega)).2]
          exact hM (d + 1) (Nat.le_refl _) (by omega) k hk hf
        rw [if_pos rfl, d1]
        simp only [Option.bind_some, e1, if_neg (oob_n (show d + 1 < 7 by omega) (by omega)), if_neg (oob_n hk (by omega)), cl_n (show d + 1 < 2 ^ 31 by omega), cl_n (show k < 2 ^ 31 by omega), ra66 _ (show d + 1 < 7 by omega), r67, nI_add]
        exact fin h2 _ d2 (by rw [hf]; rfl)
    · rintro ⟨w, h1⟩ ⟨e, hA, hI⟩
      dsimp only at e hA hI ⊢
      subst e
      unfold fM_wanders_73b
      rw [if_pos (by decide)]
      exact ⟨_, rfl, hA, hI⟩
  obtain ⟨x, m1, m2, m3⟩ := a
  have R1 := RMn_ag hR m2 (by decide)
  have b : ∃ y, rb_iter rb_fuel (fun z => fM_wanders_132b (nI p) (nI n) (nI d) z.1 z.2) ((0 : Int32), x) = some y ∧ (Ag [67 + d] x y ∧ ∀ t, t < 25 → frB B p t = true → rb_hI y (67 + d) t = nI (wr (rD ρ B p) (cdB B p) (n - d) d t)) := by
    refine rb_runP (fun k z => z.1 = nI k ∧ Ag [67 + d] x z.2 ∧ ∀ t, t < k → frB B p t = true → rb_hI z.2 (67 + d) t = nI (wr (rD ρ B p) (cdB B p) (n - d) d t)) _ 25 ⟨rfl, Ag_refl _ _, fun t ht => absurd ht (Nat.not_lt_zero _)⟩ (by omega) ?_ ?_
    · rintro k ⟨w, h1⟩ hk ⟨e, hA, hI⟩
      dsimp only at e hA hI ⊢
      subst e
      have R2 : RM h1 50 B := RM_ag R1 hA (fun y hy => by simp only [List.mem_cons, List.not_mem_nil, or_false] at hy; simp; omega)
      obtain ⟨y, z1, z2, z3, z4⟩ := M_wIn R2 hW hp hk hd6 (nI n) (f := fun t => rD ρ B p d t + wr (rD ρ B p) (cdB B p) (n - (d + 1)) (d + 1) t) cost (fun t ht => (AgI hA (by simp only [List.mem_cons, List.not_mem_nil, or_false]; omega) t).trans (m3 t ht))
      unfold fM_wanders_132b
      rw [if_neg (show ¬ (25 : Int32) ≤ nI k from nI_ge (b := 25) hk (by omega)), if_neg (oob_n (show d < 7 by omega) (by omega)), if_neg (oob_n hk (by omega)), cl_n (by omega), cl_n (by omega), ra66 _ (show d < 7 by omega), z1]
      refine ⟨_, rfl, nI_1 _, Ag_trans hA z2, fun t ht hf => ?_⟩
      by_cases e : t = k
      · subst e
        rw [z4 hf, show n - d = (n - (d + 1)) + 1 by omega]
        rfl
      · rw [z3 t e]
        exact hI t (by omega) hf
    · rintro ⟨w, h1⟩ ⟨e, hA, hI⟩
      dsimp only at e hA hI ⊢
      subst e
      unfold fM_wanders_132b
      rw [if_pos (by decide)]
      exact ⟨_, rfl, hA, hI⟩
  obtain ⟨y, l1, l2, l3⟩ := b
  unfold fM_wanders_66b
  rw [if_neg (nI_pos (by omega)), m1]
  simp only [Option.bind_some, l1]
  refine ⟨y, rfl, fun j h1 h2 t ht hf => ?_, Ag_trans (AgS (by decide) m2) (Ag_mono (fun z hz => ?_) l2)⟩
  · by_cases e : j = d
    · subst e; exact l3 t ht hf
    · rw [AgI l2 (show 67 + j ∉ [67 + d] by simp only [List.mem_cons, List.not_mem_nil, or_false]; omega), AgI m2 (show 67 + j ∉ (60 :: 63 :: mR) by unfold mR; simp only [List.mem_cons, List.not_mem_nil, or_false]; omega)]
      exact hM j (by omega) h2 t ht hf
  · unfold wM mR
    simp only [List.mem_cons, List.not_mem_nil, or_false, List.mem_append, List.mem_range'_1, List.cons_append, List.nil_append] at hz ⊢
    omega
theorem M_least {h : rb_H} {B : sBd} {ρ : sRu} (hR : RM h 50 B) (hW : WF B) (hU : RuM h ρ) {p n : Nat} (hp : p < bN B) (hn1 : 1 ≤ n) (hn : n ≤ 6) : ∃ x y, rb_iter rb_fuel (fun z => fM_wanders_41b (nI p) (nI n) z.1 z.2) ((0 : Int32), h) = some x ∧ rb_iter rb_fuel (fun z => fM_wanders_66b (nI p) (nI n) z.1 z.2) (nI n - 1, x) = some y ∧ MRw y (rD ρ B p) (cdB B p) (frB B p) n 0 ∧ Ag wM h y := by
  have a : ∃ x, rb_iter rb_fuel (fun z => fM_wanders_41b (nI p) (nI n) z.1 z.2) ((0 : Int32), h) = some x ∧ (Ag [67 + n] h x ∧ ∀ t, t < 25 → rb_hI x (67 + n) t = 0) := by
    refine rb_runP (fun k z => z.1 = nI k ∧ Ag [67 + n] h z.2 ∧ ∀ t, t < k → rb_hI z.2 (67 + n) t = 0) _ 25 ⟨rfl, Ag_refl _ _, fun t ht => absurd ht (Nat.not_lt_zero _)⟩ (by omega) ?_ ?_
    · rintro k ⟨w, h1⟩ hk ⟨e, hA, hI⟩
      dsimp only at e hA hI ⊢
      subst e
      unfold fM_wanders_41b
      rw [if_neg (show ¬ (25 : Int32) ≤ nI k from nI_ge (b := 25) hk (by omega)), if_neg (oob_n (show n < 7 by omega) (by omega)), if_neg (oob_n hk (by omega)), cl_n (by omega), cl_n (by omega), ra66 _ (show n < 7 by omega)]
      refine ⟨_, rfl, nI_1 _, Ag_sI (by simp) hA, fun t ht => ?_⟩
      rw [hI_sI]
      by_cases e : t = k
      · rw [if_pos ⟨rfl, e⟩]
      · rw [if_neg (fun z => e z.2)]; exact hI t (by omega)
    · rintro ⟨w, h1⟩ ⟨e, hA, hI⟩
      dsimp only at e hA hI ⊢
      subst e
      unfold fM_wanders_41b
      rw [if_pos (by decide)]
      exact ⟨_, rfl, hA, hI⟩
  obtain ⟨x, m1, m2, m3⟩ := a
  have A1 : Ag wM h x := Ag_mono (fun z hz => by
    unfold wM mR
    simp only [List.mem_cons, List.not_mem_nil, or_false, List.mem_append, List.mem_range'_1, List.cons_append, List.nil_append] at hz ⊢
    omega) m2
  have b : ∃ y, rb_iter rb_fuel (fun z => fM_wanders_66b (nI p) (nI n) z.1 z.2) (nI n - 1, x) = some y ∧ (MRw y (rD ρ B p) (cdB B p) (frB B p) n 0 ∧ Ag wM h y) := by
    refine rb_runP (fun k z => z.1 = nI (n - k) - 1 ∧ Ag wM h z.2 ∧ MRw z.2 (rD ρ B p) (cdB B p) (frB B p) n (n - k)) _ n ⟨rfl, A1, fun j a b t ht _ => ?_⟩ (by omega) ?_ ?_
    · have : j = n := by omega
      subst this
      rw [m3 t ht, Nat.sub_self]
      rfl
    · rintro k ⟨w, h2⟩ hk ⟨e, hA, hC⟩
      dsimp only at e hA hC ⊢
      obtain ⟨d, hd⟩ : ∃ d, n - k = d + 1 := ⟨n - k - 1, by omega⟩
      rw [hd] at e hC
      rw [nI_pred] at e
      subst e
      obtain ⟨h3, z1, z2, z3⟩ := M_day (RMn_ag hR hA (by decide)) hW (RuMn_ag hU hA (by decide)) hp (show d < n by omega) hn hC
      refine ⟨_, z1, ?_, Ag_trans hA z3, ?_⟩
      · rw [show n - (k + 1) = d by omega]
        exact (Int32.sub_eq_add_neg _ _).symm
      · rw [show n - (k + 1) = d by omega]
        exact z2
    · rintro ⟨w, h2⟩ ⟨e, hA, hC⟩
      dsimp only at e hA hC ⊢
      rw [Nat.sub_self] at e hC
      subst e
      unfold fM_wanders_66b
      rw [if_pos (by decide)]
      exact ⟨_, rfl, hC, hA⟩
  obtain ⟨y, l1, l2, l3⟩ := b
  exact ⟨x, y, m1, l1, l2, l3⟩
theorem M_wNext {h : rb_H} {B : sBd} {ρ : sRu} (hR : RM h 50 B) (hW : WF B) (hU : RuM h ρ) {p n m k a : Nat} (hp : p < bN B) (ha : a < 25) (hfa : frB B p a = true) (hn : n ≤ 6) (hm : n - k = m + 1) (hM : MRw h (rD ρ B p) (cdB B p) (frB B p) n 0) (v4 : Int32) : ∃ h', rb_iter rb_fuel (fun z => fM_wanders_263b (nI p) (nI n) (nI a) v4 (nI k) z.1 z.2) ((0 : Int32), h) = some (nI (wN (rD ρ B p) (cdB B p) m k a), h') ∧ Ag (60 :: mR) h h' := by
  have hk6 : k < 6 := by omega
  obtain ⟨w1, w2, w3⟩ := wN_ok (r := rD ρ B p) (c := cdB B p) (rD_le ρ B p) cdB_self (m := m) (d := k) (by omega) ha
  have e1 : (nI k + 1 : Int32) = nI (k + 1) := nI_1 k
  have na : ∀ y, 67 ≤ y → y < 100 → y ∉ (60 :: mR) := fun y a b => by unfold mR; simp only [List.mem_cons, List.not_mem_nil, or_false]; omega
  have body : ∀ t h1, t < 25 → Ag (60 :: mR) h h1 → ∃ h2, fM_wanders_263b (nI p) (nI n) (nI a) v4 (nI k) (nI t) h1 = some (if (cdB B p a t && decide (rD ρ B p k t + wr (rD ρ B p) (cdB B p) m (k + 1) t = wr (rD ρ B p) (cdB B p) (m + 1) k a)) = true then .inr (nI t, h2) else .inl (nI (t + 1), h2)) ∧ Ag (60 :: mR) h h2 := by
    intro t h1 ht hA
    have R1 := RMn_ag hR hA (by decide)
    have U1 := RuMn_ag hU hA (by decide)
    unfold fM_wanders_263b fM_wanders_318l263
    rw [M_isFree R1 hW hp ht]
    simp only [Option.bind_some, M_canWander R1 hW hp ha ht]
    cases hf : frB B p t
    · refine ⟨h1, ?_, hA⟩
      rw [if_neg (by decide), if_neg, nI_1]
      intro z
      rw [Bool.and_eq_true] at z
      rw [cd_free hfa z.1] at hf
      cases hf
    · rw [if_pos rfl]
      cases hc : cdB B p a t
      · refine ⟨h1, ?_, hA⟩
        rw [if_neg (by decide), if_neg (by simp), nI_1]
      · obtain ⟨h2, d1, d2⟩ := M_rentBehind R1 hW U1 hp ht (nI k)
        have A2 := Ag_trans hA d2
        have r1 : rb_hI h2 (67 + (k + 1)) t = nI (wr (rD ρ B p) (cdB B p) m (k + 1) t) := by
          rw [AgI A2 (na _ (by omega) (by omega)), hM (k + 1) (Nat.zero_le _) (by omega) t ht hf, show n - (k + 1) = m by omega]
        have r2 : rb_hI h2 (67 + k) a = nI (wr (rD ρ B p) (cdB B p) (m + 1) k a) := by
          rw [AgI A2 (na _ (by omega) (by omega)), hM k (Nat.zero_le _) (by omega) a ha hfa, hm]
        have b1 := wr_le (rD_le ρ B p) (cdB_self (B := B) (p := p)) m (k + 1) t ht
        have b2 := wr_le (rD_le ρ B p) (cdB_self (B := B) (p := p)) (m + 1) k a ha
        have b3 := rD_le ρ B p k t
        have ee : nI (rD ρ B p k t + wr (rD ρ B p) (cdB B p) m (k + 1) t) = nI (wr (rD ρ B p) (cdB B p) (m + 1) k a) ↔ rD ρ B p k t + wr (rD ρ B p) (cdB B p) m (k + 1) t = wr (rD ρ B p) (cdB B p) (m + 1) k a := nI_eq (by omega) (by omega)
        have er : nI (rentN ρ B p t (bQ B + nI k)) + nI (wr (rD ρ B p) (cdB B p) m (k + 1) t) = nI (rD ρ B p k t + wr (rD ρ B p) (cdB B p) m (k + 1) t) := nI_add _ _
        refine ⟨h2, ?_, A2⟩
        rw [if_pos rfl, d1]
        simp only [Option.bind_some, e1, if_neg (oob_n (show k + 1 < 7 by omega) (by omega)), if_neg (oob_n (show k < 7 by omega) (by omega)), if_neg (oob_n ht (by omega)), if_neg (oob_n ha (by omega)), cl_n (show k + 1 < 2 ^ 31 by omega), cl_n (show k < 2 ^ 31 by omega), cl_n (show t < 2 ^ 31 by omega), cl_n (show a < 2 ^ 31 by omega), ra66 _ (show k + 1 < 7 by omega), ra66 _ (show k < 7 by omega), r1, r2, er, ee, nI_1, Bool.true_and, decide_eq_true_eq]
        by_cases c : rD ρ B p k t + wr (rD ρ B p) (cdB B p) m (k + 1) t = wr (rD ρ B p) (cdB B p) (m + 1) k a
        · rw [if_pos c, if_pos c]
        · rw [if_neg c, if_neg c]
  have main : ∃ x, rb_iter rb_fuel (fun z => fM_wanders_263b (nI p) (nI n) (nI a) v4 (nI k) z.1 z.2) ((0 : Int32), h) = some x ∧ (x.1 = nI (wN (rD ρ B p) (cdB B p) m k a) ∧ Ag (60 :: mR) h x.2) := by
    refine rb_runP (fun t z => z.1 = nI t ∧ Ag (60 :: mR) h z.2) _ (wN (rD ρ B p) (cdB B p) m k a) ⟨rfl, Ag_refl _ _⟩ (by omega) ?_ ?_
    · rintro t ⟨w, h1⟩ ht ⟨e, hA⟩
      dsimp only at e hA ⊢
      subst e
      obtain ⟨h2, z1, z2⟩ := body t h1 (by omega) hA
      have := fst1_no (p := fun t => cdB B p a t && decide (rD ρ B p k t + wr (rD ρ B p) (cdB B p) m (k + 1) t = wr (rD ρ B p) (cdB B p) (m + 1) k a)) ht
      rw [z1, this]
      exact ⟨_, rfl, rfl, z2⟩
    · rintro ⟨w, h1⟩ ⟨e, hA⟩
      dsimp only at e hA ⊢
      subst e
      obtain ⟨h2, z1, z2⟩ := body _ h1 w1 hA
      rw [z1, w2, decide_eq_true w3]
      exact ⟨_, rfl, rfl, z2⟩
  obtain ⟨x, m1, m2, m3⟩ := main
  exact ⟨x.2, by rw [m1, ← m2], m3⟩
def wT : List Nat := 60 :: 1006 :: 53 :: mR
theorem M_tellLeast {h : rb_H} {B : sBd} {ρ : sRu} (hR : RM h 50 B) (hW : WF B) (hU : RuM h ρ) {p n : Nat} (hp : p < bN B) (hpl : bP B p < 25) (hn : n ≤ 6) (hM : MRw h (rD ρ B p) (cdB B p) (frB B p) n 0) (hRW : RWm h []) (v4 : Int32) : ∃ x, rb_iter rb_fuel (fun z => fM_wanders_254b (nI p) (nI n) z.1 v4 z.2.1 z.2.2) (nI (bP B p), (0 : Int32), h) = some x ∧ (RWm x (wL (rD ρ B p) (cdB B p) n 0 (bP B p)) ∧ Ag wT h x) := by
  have frS : frB B p (bP B p) = true := by
    rw [fr_who hW hpl, who_eq hW hp hpl rfl]; simp
  refine rb_runP (fun k z => z.2.1 = nI k ∧ ∃ a R, a < 25 ∧ frB B p a = true ∧ z.1 = nI a ∧ RWm z.2.2 R ∧ R ++ wL (rD ρ B p) (cdB B p) (n - k) k a = wL (rD ρ B p) (cdB B p) n 0 (bP B p) ∧ Ag wT h z.2.2) _ n ⟨rfl, bP B p, [], hpl, frS, rfl, hRW, rfl, Ag_refl _ _⟩ (by omega) ?_ ?_
  · rintro k ⟨v, w, h1⟩ hk ⟨e, a, R, ha, hfa, e1, hRW, hrest, hA⟩
    dsimp only at e e1 hRW hA ⊢
    subst e
    subst e1
    obtain ⟨m, hm⟩ : ∃ m, n - k = m + 1 := ⟨n - k - 1, by omega⟩
    rw [hm] at hrest
    have na : ∀ y, 67 ≤ y → y < 100 → y ∉ wT := fun y a b => by unfold wT mR; simp only [List.mem_cons, List.not_mem_nil, or_false]; omega
    obtain ⟨w1, w2, -⟩ := wN_ok (r := rD ρ B p) (c := cdB B p) (rD_le ρ B p) cdB_self (m := m) (d := k) (by omega) ha
    have hM1 : MRw h1 (rD ρ B p) (cdB B p) (frB B p) n 0 := fun j a b t ht hf => (AgI hA (na _ (by omega) (by omega)) t).trans (hM j a b t ht hf)
    obtain ⟨h2, z1, z2⟩ := M_wNext (RMn_ag hR hA (by decide)) hW (RuMn_ag hU hA (by decide)) hp ha hfa hn hm hM1 v4
    have hlen : R.length + (m + 1) = n := by
      have := congrArg List.length hrest
      rw [List.length_append, wL_len, wL_len] at this
      exact this
    obtain ⟨h3, y1, y2, y3⟩ := M_tell (RWm_ag hRW z2 (by decide)) (by omega) (nI (wN (rD ρ B p) (cdB B p) m k a)).toInt64
    unfold fM_wanders_254b
    rw [if_neg (nI_ge hk (by omega)), z1]
    simp only [Option.bind_some, y1, nI_1]
    refine ⟨_, rfl, rfl, _, _, w1, cd_free hfa w2, rfl, y2, ?_, Ag_trans hA (Ag_trans (AgS (by decide) z2) (AgS (by decide) y3))⟩
    rw [show n - (k + 1) = m by omega, List.append_assoc]
    exact hrest
  · rintro ⟨v, w, h1⟩ ⟨e, a, R, ha, hfa, e1, hRW, hrest, hA⟩
    dsimp only at e e1 hRW hA ⊢
    subst e
    rw [Nat.sub_self] at hrest
    unfold fM_wanders_254b
    rw [if_pos (nI_le (Nat.le_refl _) (by omega))]
    refine ⟨_, rfl, ?_, hA⟩
    rw [← hrest]
    show RWm h1 (R ++ [])
    rw [List.append_nil]
    exact hRW
theorem O_wanders (x y : Int32) : rb_op (fB_wanders x y) (fM_wanders x y) := by
  refine rb_op_of (fun σ hσ => ?_)
  have hW := hσ.1
  have h8 := hW.1
  rcases sq_or x (bN (zB σ)) with ⟨p, hp, rfl⟩ | hx
  · by_cases hy1 : y < 1
    · refine at_refuse hσ (-1) (fun h hI => ?_) (fun h hI => ?_)
      · unfold fB_wanders fB_wanders_0
        rw [S_has_y hI.1 hW hp, if_pos rfl, if_pos hy1]
      · unfold fM_wanders fM_wanders_0
        rw [M_isPiece_y hI.1 hW hp, if_pos rfl]
        unfold fM_in fM_in_0
        rw [if_pos hy1]
        rfl
    · by_cases hy2 : y ≤ 6
      · have hin : fM_in y 1 6 = true := by
          unfold fM_in fM_in_0
          rw [if_neg hy1, if_neg (Int32.not_lt.mpr hy2)]
        obtain ⟨n, hn, rfl⟩ := nI_of2 (n := 6) (show (6 : Int32).toInt = (6 : Nat) by decide) (fun z => hy1 (Int32.lt_trans z (by decide))) hy2
        have hn1 : 1 ≤ n := by
          have q : ¬ nI n < nI 1 := hy1
          rw [nI_ltI (by omega) (by omega)] at q
          omega
        by_cases ho : bP (zB σ) p = 25
        · refine at_refuse hσ (-2) (fun h hI => ?_) (fun h hI => ?_)
          · unfold fB_wanders fB_wanders_0
            rw [S_has_y hI.1 hW hp, if_pos rfl, if_neg hy1, if_pos hy2, S_stands_y hI.1 hW hp]
            simp [ho]
          · unfold fM_wanders fM_wanders_0
            rw [M_isPiece_y hI.1 hW hp, if_pos rfl, hin, if_pos rfl, M_isOut hI.1 hW hp]
            simp [ho]
        · have hw := (hW.2.2.1 p hp).2.2.1
          have hpl : bP (zB σ) p < 25 := by omega
          have frS : frB (zB σ) p (bP (zB σ) p) = true := by
            rw [fr_who hW hpl, who_eq hW hp hpl rfl]; simp
          refine at_row hσ (nI (wr (rD (zR σ) (zB σ) p) (cdB (zB σ) p) n 0 (bP (zB σ) p))) (wL (rD (zR σ) (zB σ) p) (cdB (zB σ) p) n 0 (bP (zB σ) p)) (by rw [wL_len]; omega) (fun h hI => ?_) (fun h0 h e hI => ?_)
          · obtain ⟨h1, a1, a2, a3⟩ := C_open hI.1 hW hp
            obtain ⟨h2, b1, b2, b3, b4⟩ := C_least (RSn_ag hI.1 a3 (by decide)) hW (RuCn_ag hI.2.1 a3 (by decide)) hp hpl a2 hn1 hn
            have A0 : Ag [3] h2 (rb_sF h2 3 1 0) := Ag_sF (by decide) (Ag_refl _ _)
            obtain ⟨h3, c1, c2, c3⟩ := C_tellLeast (h := rb_sF h2 3 1 0) hpl (WK_ag b2 A0 (by decide)) hn b3 (C_row0 h2)
            unfold fB_wanders fB_wanders_0
            rw [S_has_y hI.1 hW hp, if_pos rfl, if_neg hy1, if_pos hy2, S_stands_y hI.1 hW hp]
            simp only [Option.bind_some, decide_eq_true_eq, if_pos ho, a1, b1, c1]
            exact ⟨h3, rfl, c2, Ag_trans (AgS (by decide +kernel) a3) (Ag_trans (AgS (by decide +kernel) b4) (Ag_trans (AgS (by decide +kernel) A0) (AgS (by decide +kernel) c3)))⟩
          · obtain ⟨x, y, m1, m2, m3, m4⟩ := M_least hI.1 hW hI.2.1 hp hn1 hn
            have R1 := RMn_ag hI.1 m4 (by decide)
            have A0 : Ag [1006] y (rb_sF y 49 6 0) := Ag_sF (by decide) (Ag_refl _ _)
            have q : rb_hI (rb_sF y 49 6 0) 50 (8 + p) = nI (bP (zB σ) p) := (R1.2.2.2.2 p hp).2.2.1
            have c67 : rb_hI (rb_sF y 49 6 0) 67 (bP (zB σ) p) = nI (wr (rD (zR σ) (zB σ) p) (cdB (zB σ) p) n 0 (bP (zB σ) p)) := m3 0 (Nat.le_refl _) (Nat.zero_le _) _ hpl frS
            obtain ⟨x3, c1, c2, c3⟩ := M_tellLeast (h := rb_sF y 49 6 0) (RMn_ag R1 A0 (by decide)) hW (RuMn_ag (RuMn_ag hI.2.1 m4 (by decide)) A0 (by decide)) hp hpl hn m3 (M_row0 y) (nI (wr (rD (zR σ) (zB σ) p) (cdB (zB σ) p) n 0 (bP (zB σ) p)))
            unfold fM_wanders fM_wanders_0
            rw [← e, M_isPiece_y hI.1 hW hp, if_pos rfl, hin, if_pos rfl, M_isOut hI.1 hW hp]
            simp only [Option.bind_some, decide_eq_true_eq, if_neg ho, m1, m2, nI8, if_neg (oob_n (show 8 + p < 27 by omega) (by omega)), cl_n (show 8 + p < 2 ^ 31 by omega), q, if_neg (oob_n hpl (by omega)), cl_n (show bP (zB σ) p < 2 ^ 31 by omega), c67, c1]
            exact ⟨x3, rfl, c2, Ag_trans (AgS (by decide +kernel) m4) (Ag_trans (AgS (by decide +kernel) A0) (AgS (by decide +kernel) c3))⟩
      · refine at_refuse hσ (-1) (fun h hI => ?_) (fun h hI => ?_)
        · unfold fB_wanders fB_wanders_0
          rw [S_has_y hI.1 hW hp, if_pos rfl, if_neg hy1, if_neg hy2]
        · unfold fM_wanders fM_wanders_0
          rw [M_isPiece_y hI.1 hW hp, if_pos rfl]
          unfold fM_in fM_in_0
          rw [if_neg hy1, if_pos (Int32.not_le.mp hy2)]
          rfl
  · refine at_refuse hσ (-1) (fun h hI => ?_) (fun h hI => ?_)
    · unfold fB_wanders fB_wanders_0
      rw [S_has_n hI.1 hW hx, if_neg (by decide)]
    · unfold fM_wanders fM_wanders_0
      rw [M_isPiece_n hI.1 hW hx, if_neg (by decide)]
