/-! leaps into the corner -/
def kOn : Nat → Nat → Nat → Bool
  | 0, c, r => decide (2 ≤ c) && decide (1 ≤ r)
  | 1, c, _ => decide (2 ≤ c)
  | 2, c, r => decide (1 ≤ c) && decide (2 ≤ r)
  | _, _, r => decide (2 ≤ r)
def kC : Nat → Nat → Nat
  | 0, c => c - 2
  | 1, c => c - 2
  | 2, c => c - 1
  | _, c => c + 1
def kR : Nat → Nat → Nat
  | 0, r => r - 1
  | 1, r => r + 1
  | _, r => r - 2
def kW (L : Nat → Nat → Bool) (c r j : Nat) : Bool := kOn j c r && L (kC j c) (kR j r)
def kG (L : Nat → Nat → Bool) (c r : Nat) : Nat := if kW L c r 0 then 0 else if kW L c r 1 then 1 else if kW L c r 2 then 2 else if kW L c r 3 then 3 else 4
theorem j4 {j : Nat} (h : j < 4) : j = 0 ∨ j = 1 ∨ j = 2 ∨ j = 3 := by omega
theorem kOn_sum {j c r : Nat} (h : j < 4) (hn : kOn j c r = true) : kC j c + kR j r < c + r := by
  rcases j4 h with e | e | e | e <;> subst e <;> simp [kOn] at hn <;> simp only [kC, kR] <;> omega
theorem kG_le {L : Nat → Nat → Bool} {c r : Nat} : kG L c r ≤ 4 := by
  unfold kG
  split
  · omega
  split
  · omega
  split
  · omega
  split <;> omega
theorem kG_no {L : Nat → Nat → Bool} {c r j : Nat} (h : j < kG L c r) : kW L c r j = false := by
  unfold kG at h
  split at h
  · omega
  rename_i h0
  split at h
  · have : j = 0 := by omega
    subst this; exact Bool.eq_false_iff.mpr h0
  rename_i h1
  split at h
  · rcases (show j = 0 ∨ j = 1 by omega) with e | e <;> subst e
    · exact Bool.eq_false_iff.mpr h0
    · exact Bool.eq_false_iff.mpr h1
  rename_i h2
  split at h
  · rcases (show j = 0 ∨ j = 1 ∨ j = 2 by omega) with e | e | e <;> subst e
    · exact Bool.eq_false_iff.mpr h0
    · exact Bool.eq_false_iff.mpr h1
    · exact Bool.eq_false_iff.mpr h2
  rename_i h3
  rcases j4 h with e | e | e | e <;> subst e
  · exact Bool.eq_false_iff.mpr h0
  · exact Bool.eq_false_iff.mpr h1
  · exact Bool.eq_false_iff.mpr h2
  · exact Bool.eq_false_iff.mpr h3
theorem kG_yes {L : Nat → Nat → Bool} {c r : Nat} (h : kG L c r < 4) : kW L c r (kG L c r) = true := by
  unfold kG at h ⊢
  by_cases h0 : kW L c r 0 = true
  · rw [if_pos h0]; exact h0
  by_cases h1 : kW L c r 1 = true
  · rw [if_neg h0, if_pos h1]; exact h1
  by_cases h2 : kW L c r 2 = true
  · rw [if_neg h0, if_neg h1, if_pos h2]; exact h2
  by_cases h3 : kW L c r 3 = true
  · rw [if_neg h0, if_neg h1, if_neg h2, if_pos h3]; exact h3
  rw [if_neg h0, if_neg h1, if_neg h2, if_neg h3] at h
  omega
theorem kG_same {L K : Nat → Nat → Bool} {c r : Nat} (h : ∀ a b, a + b < c + r → L a b = K a b) : kG L c r = kG K c r := by
  have w : ∀ j, j < 4 → kW L c r j = kW K c r j := by
    intro j hj
    unfold kW
    cases hon : kOn j c r
    · rfl
    · rw [h _ _ (kOn_sum hj hon)]
  unfold kG
  rw [w 0 (by omega), w 1 (by omega), w 2 (by omega), w 3 (by omega)]
def kL : Nat → Nat → Nat → Bool
  | 0 => fun _ _ => true
  | n + 1 => fun c r => decide (kG (kL n) c r = 4)
theorem kL_more : ∀ (n c r : Nat), c + r ≤ n → kL (n + 1) c r = kL n c r
  | 0, c, r, h => by
    have hc : c = 0 := by omega
    have hr : r = 0 := by omega
    subst hc; subst hr
    rfl
  | n + 1, c, r, h => by
    show decide (kG (kL (n + 1)) c r = 4) = decide (kG (kL n) c r = 4)
    rw [kG_same (fun a b hs => kL_more n a b (by omega))]
def kT (c r : Nat) : Bool := kL (c + r) c r
theorem kL_up : ∀ (d n c r : Nat), c + r ≤ n → kL (n + d) c r = kL n c r
  | 0, _, _, _, _ => rfl
  | d + 1, n, c, r, h => by
    rw [← kL_up d n c r h]
    exact kL_more (n + d) c r (by omega)
theorem kT_L {n c r : Nat} (h : c + r ≤ n) : kL n c r = kT c r := by
  have := kL_up (n - (c + r)) (c + r) c r (Nat.le_refl _)
  rw [show c + r + (n - (c + r)) = n by omega] at this
  exact this
theorem kT_is (c r : Nat) : kT c r = decide (kG kT c r = 4) := by
  rw [← kT_L (n := c + r + 1) (by omega)]
  show decide (kG (kL (c + r)) c r = 4) = _
  rw [kG_same (fun a b hs => kT_L (by omega))]
theorem kn_y : ∀ j, j < 4 → ∀ c, c < 19 → ∀ r, r < 19 → kOn j c r = true → nI c + rb_sv 5 j = nI (kC j c) ∧ nI r + rb_sv 6 j = nI (kR j r) := by decide +kernel
theorem kn_n : ∀ j, j < 4 → ∀ c, c < 19 → ∀ r, r < 19 → kOn j c r = false → nI c + rb_sv 5 j < 0 ∨ nI r + rb_sv 6 j < 0 := by decide +kernel
theorem ite4 {A B C D : Prop} [Decidable A] [Decidable B] [Decidable C] [Decidable D] {X : Type} {x y : X} (h : A ∨ B ∨ C ∨ D) : (if A then x else if B then x else if C then x else if D then x else y) = x := by
  by_cases a : A
  · rw [if_pos a]
  · by_cases b : B
    · rw [if_neg a, if_pos b]
    · by_cases c : C
      · rw [if_neg a, if_neg b, if_pos c]
      · rw [if_neg a, if_neg b, if_neg c, if_pos (by rcases h with z | z | z | z <;> first | exact absurd z a | exact absurd z b | exact absurd z c | exact z)]
def bI (b : Bool) : Int32 := if b then 1 else 0
theorem C_winningLeap {h : rb_H} {c r : Nat} (hs : c + r ≤ 18) (CK : ∀ a b, a + b < c + r → rb_hI h 48 (19 * a + b) = bI (kT a b)) : fB_winningLeap (nI c) (nI r) h = some (if kG kT c r = 4 then -1 else nI (kG kT c r)) := by
  have body : ∀ j, j < 4 → fB_winningLeap_2b (nI c) (nI r) (nI j) h = if kW kT c r j = true then some (.inr (.inl (nI j))) else some (.inl (nI (j + 1))) := by
    intro j hj
    unfold fB_winningLeap_2b fB_winningLeap_64l2
    simp only [if_neg (show ¬ (4 : Int32) ≤ nI j from nI_ge (b := 4) hj (by omega)), if_neg (oob_n hj (show j < 2 ^ 31 by omega)), cl_n (show j < 2 ^ 31 by omega)]
    cases hon : kOn j c r
    · rw [ite4 (by rcases kn_n j hj c (by omega) r (by omega) hon with z | z; exact Or.inl z; exact Or.inr (Or.inr (Or.inl z)))]
      unfold fB_winningLeap_65l2 fB_winningLeap_90l2
      rw [if_pos rfl, nI_1, if_neg (by unfold kW; rw [hon, Bool.false_and]; decide)]
    · obtain ⟨q1, q2⟩ := kn_y j hj c (by omega) r (by omega) hon
      have hsum := kOn_sum hj hon
      simp only [q1, q2]
      rw [if_neg (show ¬ nI (kC j c) < 0 from nI_nlt (b := 0) (by omega) (by omega)), if_neg (show ¬ (19 : Int32) ≤ nI (kC j c) from nI_ge (b := 19) (by omega) (by omega)), if_neg (show ¬ nI (kR j r) < 0 from nI_nlt (b := 0) (by omega) (by omega)), if_neg (show ¬ (19 : Int32) ≤ nI (kR j r) from nI_ge (b := 19) (by omega) (by omega))]
      unfold fB_winningLeap_65l2 fB_winningLeap_90l2
      rw [if_neg (by decide), show (19 : Int32) * nI (kC j c) = nI (19 * kC j c) from pk_mul 19 _, nI_add, if_neg (oob_n (show 19 * kC j c + kR j r < 361 by omega) (by omega)), cl_n (by omega), CK _ _ hsum, nI_1]
      have w : kW kT c r j = kT (kC j c) (kR j r) := by unfold kW; rw [hon]; rfl
      rw [w]
      cases kT (kC j c) (kR j r)
      · rw [if_pos (by decide), if_neg (by decide)]
      · rw [if_neg (by decide), if_pos rfl]
  unfold fB_winningLeap fB_winningLeap_0
  by_cases h4 : kG kT c r = 4
  · rw [if_pos h4]
    have run : rb_iter rb_fuel (fun s => fB_winningLeap_2b (nI c) (nI r) s h) (0 : Int32) = some (.inr ()) := rb_run' (fun k => nI k) 4 rfl (by omega) (fun k hk => by rw [body k hk, if_neg (by rw [kG_no (by rw [h4]; exact hk)]; decide)]) (by
      unfold fB_winningLeap_2b
      rw [if_pos (by decide)])
    rw [run]; rfl
  · rw [if_neg h4]
    have hlt : kG kT c r < 4 := by have := kG_le (L := kT) (c := c) (r := r); omega
    have run : rb_iter rb_fuel (fun s => fB_winningLeap_2b (nI c) (nI r) s h) (0 : Int32) = some (.inl (nI (kG kT c r))) := rb_run' (fun k => nI k) (kG kT c r) rfl (by omega) (fun k hk => by rw [body k (by omega), if_neg (by rw [kG_no hk]; decide)]) (by
      rw [body _ hlt, if_pos (kG_yes hlt)])
    rw [run]; rfl
theorem kh_1 : ∀ a, a < 20 → ∀ c, c < 20 → ((nI a = nI c - 2) ↔ a + 2 = c) := by decide +kernel
theorem kh_2 : ∀ a, a < 20 → ∀ c, c < 20 → ((rb_abs (nI a - nI c) = 1) ↔ (a = c + 1 ∨ c = a + 1)) := by decide +kernel
theorem kHop {c r a b : Nat} (hc : c < 20) (hr : r < 20) (ha : a < 20) (hb : b < 20) : fM_isHop (nI c) (nI r) (nI a) (nI b) = true ↔ ∃ j, j < 4 ∧ kOn j c r = true ∧ a = kC j c ∧ b = kR j r := by
  have e1 := kh_1 a ha c hc
  have e2 := kh_1 b hb r hr
  have e3 := kh_2 b hb r hr
  have e4 := kh_2 a ha c hc
  unfold fM_isHop fM_isHop_0
  by_cases k1 : nI a = nI c - 2
  · rw [if_pos k1]
    have l1 := e1.mp k1
    by_cases k2 : rb_abs (nI b - nI r) = 1
    · rw [if_pos k2]
      refine ⟨fun _ => ?_, fun _ => rfl⟩
      rcases e3.mp k2 with l2 | l2
      · exact ⟨1, by omega, by simp [kOn]; omega, by simp only [kC]; omega, by simp only [kR]; omega⟩
      · exact ⟨0, by omega, by simp [kOn]; omega, by simp only [kC]; omega, by simp only [kR]; omega⟩
    · rw [if_neg k2]
      refine ⟨fun z => absurd z (by decide), ?_⟩
      rintro ⟨j, hj, h1, h2, h3⟩
      exfalso
      apply k2
      rw [e3]
      rcases j4 hj with e | e | e | e <;> subst e <;> simp [kOn] at h1 <;> simp only [kC, kR] at h2 h3 <;> omega
  · rw [if_neg k1]
    have l1 : ¬ a + 2 = c := fun z => k1 (e1.mpr z)
    by_cases k2 : nI b = nI r - 2
    · rw [if_pos k2]
      have l2 := e2.mp k2
      by_cases k3 : rb_abs (nI a - nI c) = 1
      · rw [if_pos k3]
        refine ⟨fun _ => ?_, fun _ => rfl⟩
        rcases e4.mp k3 with l3 | l3
        · exact ⟨3, by omega, by simp [kOn]; omega, by simp only [kC]; omega, by simp only [kR]; omega⟩
        · exact ⟨2, by omega, by simp [kOn]; omega, by simp only [kC]; omega, by simp only [kR]; omega⟩
      · rw [if_neg k3]
        refine ⟨fun z => absurd z (by decide), ?_⟩
        rintro ⟨j, hj, h1, h2, h3⟩
        exfalso
        apply k3
        rw [e4]
        rcases j4 hj with e | e | e | e <;> subst e <;> simp [kOn] at h1 <;> simp only [kC, kR] at h2 h3 <;> omega
    · rw [if_neg k2]
      have l2 : ¬ b + 2 = r := fun z => k2 (e2.mpr z)
      refine ⟨fun z => absurd z (by decide), ?_⟩
      rintro ⟨j, hj, h1, h2, h3⟩
      exfalso
      rcases j4 hj with e | e | e | e <;> subst e <;> simp [kOn] at h1 <;> simp only [kC, kR] at h2 h3 <;> omega
