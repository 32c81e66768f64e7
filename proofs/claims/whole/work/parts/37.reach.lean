/-! all squares to which a kind can go -/
def besN (f t : Nat) : Bool := decide (f ≠ t) && decide (f % 5 ≤ t % 5 + 1) && decide (t % 5 ≤ f % 5 + 1) && decide (f / 5 ≤ t / 5 + 1) && decide (t / 5 ≤ f / 5 + 1)
theorem around_bt : ∀ f, f < 25 → ∀ t, t < 32 → bt (fB_around (nI f)) t = (decide (t < 25) && besN f t) := by
  unfold fB_around fB_around_0 fB_bitOf fB_bitOf_0; decide +kernel
theorem B_jumps {f : Nat} (hf : f < 25) (h : rb_H) : fB_jumps (nI f) h = some (bits (fun t => (List.range 8).any fun d => decide (stp f (jmpX d) (jmpY d) = t)) 25) := by
  have hfin : fo (fun d a => a ||| fB_bitOf (if stp f (jmpX d) (jmpY d) < 25 then nI (stp f (jmpX d) (jmpY d)) else -1)) 8 0 = bits (fun t => (List.range 8).any fun d => decide (stp f (jmpX d) (jmpY d) = t)) 25 := by
    have key : ∀ f, f < 25 → fo (fun d a => a ||| fB_bitOf (if stp f (jmpX d) (jmpY d) < 25 then nI (stp f (jmpX d) (jmpY d)) else -1)) 8 0 = bits (fun t => (List.range 8).any fun d => decide (stp f (jmpX d) (jmpY d) = t)) 25 := by
      unfold fB_bitOf fB_bitOf_0; decide +kernel
    exact key f hf
  rw [← hfin]
  unfold fB_jumps fB_jumps_0
  refine rb_runB (fun k => (fo (fun d a => a ||| fB_bitOf (if stp f (jmpX d) (jmpY d) < 25 then nI (stp f (jmpX d) (jmpY d)) else -1)) k 0, nI k)) 8 _ rfl (by omega) (fun k hk => ?_) rfl rfl
  show fB_jumps_4b (nI f) _ (nI k) h = _
  unfold fB_jumps_4b
  have h8 : ¬ (8 : Int32) ≤ nI k := by show ¬ nI 8 ≤ _; exact nI_ge (by omega) (by omega)
  simp only [if_neg h8, if_neg (oob_n (show k < 8 by omega) (by omega)), cl_n (show k < 2 ^ 31 by omega), rb_lt, stp_jmp k hk f hf, nI_1]
  rfl
theorem stp_pawn : ∀ f, f < 25 → (∀ x, x < 3 → fB_bitOf (fB_stepFrom (nI f) (nI x - 1) 1) = if stp f ((x : Nat) - 1) 1 < 25 then rb_shl 1 (nI (stp f ((x : Nat) - 1) 1)) else 0) ∧ ∀ x, x < 3 → fB_bitOf (fB_stepFrom (nI f) (nI x - 1) (-1)) = if stp f ((x : Nat) - 1) (-1) < 25 then rb_shl 1 (nI (stp f ((x : Nat) - 1) (-1))) else 0 := by
  unfold fB_stepFrom fB_stepFrom_0 fB_stepFrom_37 fB_stepFrom_38 fB_bitOf fB_bitOf_0; decide +kernel
theorem stp_lt (s : Nat) (dx dy : Int) : stp s dx dy ≤ 25 := by
  unfold stp
  dsimp only
  split <;> omega
theorem rayB_lt {T : Nat → Bool} {d : Nat} : ∀ {m s t : Nat}, rayB T d m s t = true → t < 25
  | 0, _, _, h => by cases h
  | m + 1, s, t, h => by
    unfold rayB at h
    simp only [Bool.and_eq_true, Bool.or_eq_true, decide_eq_true_eq] at h
    rcases h with ⟨h1, h2 | ⟨-, h2⟩⟩
    · omega
    · exact rayB_lt h2
theorem rayB_congr {T T' : Nat → Bool} (hT : ∀ s, s < 25 → T s = T' s) {d : Nat} : ∀ (m s t : Nat), rayB T d m s t = rayB T' d m s t
  | 0, _, _ => rfl
  | m + 1, s, t => by
    unfold rayB
    by_cases h : nx d s < 25
    · rw [hT _ h, rayB_congr hT m (nx d s) t]
    · simp [h]
/-- one step ahead, for a side -/
def pup (sd : Nat) : Int := if sd = 0 then 1 else -1
/-- whether a kind of a side can go from f to t, own ones and foes standing so -/
def goC (k sd f : Nat) (own foe : Nat → Bool) (t : Nat) : Bool := match k with
  | 0 => besN f t && !own t
  | 1 => ((List.range 8).any fun d => rayB (fun s => own s || foe s) d 4 f t) && !own t
  | 2 => ((List.range 4).any fun d => rayB (fun s => own s || foe s) d 4 f t) && !own t
  | 3 => ((List.range 4).any fun d => rayB (fun s => own s || foe s) (4 + d) 4 f t) && !own t
  | 4 => ((List.range 8).any fun d => decide (stp f (jmpX d) (jmpY d) = t)) && !own t
  | _ => (decide (stp f 0 (pup sd) = t) && !(own t || foe t)) || ((decide (stp f (-1) (pup sd) = t) || decide (stp f 1 (pup sd) = t)) && foe t)
theorem goC_congr {k sd f : Nat} {own foe own' foe' : Nat → Bool} (h1 : ∀ s, s < 25 → own s = own' s) (h2 : ∀ s, s < 25 → foe s = foe' s) {t : Nat} (ht : t < 25) : goC k sd f own foe t = goC k sd f own' foe' t := by
  have hT : ∀ s, s < 25 → (own s || foe s) = (own' s || foe' s) := fun s hs => by rw [h1 s hs, h2 s hs]
  have hr : ∀ d m s t, rayB (fun s => own s || foe s) d m s t = rayB (fun s => own' s || foe' s) d m s t := fun d m s t => rayB_congr hT m s t
  unfold goC
  simp only [hr, h1 t ht, h2 t ht]
theorem stp_bt {z : Nat} {t : Nat} (ht : t < 25) : bt (if z < 25 then rb_shl 1 (nI z) else 0) t = decide (z = t) := by
  by_cases h : z < 25
  · rw [if_pos h, shl1_bt (by omega) (by omega)]
    simp [eq_comm]
  · rw [if_neg h, b_0]
    have : z ≠ t := by omega
    simp [this]
theorem stp_bt2 {z : Nat} {t : Nat} (ht : 25 ≤ t) (ht2 : t < 32) : bt (if z < 25 then rb_shl 1 (nI z) else 0) t = false := by
  by_cases h : z < 25
  · rw [if_pos h, shl1_bt (by omega) (by omega)]
    have : t ≠ z := by omega
    simp [this]
  · rw [if_neg h, b_0]
theorem B_isSquare_y {s : Nat} (hs : s < 25) : fB_isSquare (nI s) = true := by
  unfold fB_isSquare fB_isSquare_0
  rw [if_neg (nI_pos (by omega)), if_neg (by show ¬ nI 25 ≤ nI s; exact nI_ge hs (by omega))]
theorem B_isSquare_n {x : Int32} (hx : ∀ s, s < 25 → x ≠ nI s) : fB_isSquare x = false := by
  unfold fB_isSquare fB_isSquare_0
  by_cases h0 : x < 0
  · rw [if_pos h0]
  · rw [if_neg h0]
    obtain ⟨j, hj, rfl⟩ := nI_of h0
    rw [if_pos]
    exact nI_le (a := 25) (Nat.not_lt.mp fun q => hx j q rfl) (by omega)
theorem kind_ne {k m : Nat} (hk : k < 100) (hm : m < 100) (h : k ≠ m) : ¬ nI k = nI m := fun z => h ((nI_eq (by omega) (by omega)).mp z)
theorem B_reachOf {k sd f : Nat} {own foe : Int32} (hk : k ≤ 5) (hsd : sd ≤ 1) (hf : f < 25) (h : rb_H) : fB_reachOf (nI k) (nI sd) (nI f) own foe h = some (bits (goC k sd f (bt own) (bt foe)) 25) := by
  unfold fB_reachOf fB_reachOf_0
  have line : ∀ lo hi : Nat, lo ≤ hi → hi ≤ 8 → (fB_lines (nI f) (nI lo) (nI hi) (own ||| foe) h).bind (fun u => some (u &&& (own ^^^ (-1)))) = some (bits (fun t => ((List.range (hi - lo)).any fun d => rayB (fun s => bt own s || bt foe s) (lo + d) 4 f t) && !bt own t) 25) := by
    intro lo hi h1 h2
    rw [B_lines h1 h2 hf h]
    show some _ = _
    congr 1
    refine bits_of (by omega) (fun t ht => ?_)
    rw [b_and, bits_bt _ 32 (Nat.le_refl _) t ht, xor_m1 _ ht]
    simp only [ht, decide_true, Bool.true_and, b_or]
    by_cases h25 : t < 25
    · simp [h25]
    · have : ((List.range (hi - lo)).any fun d => rayB (fun s => bt own s || bt foe s) (lo + d) 4 f t) = false := by
        rw [List.any_eq_false]
        intro d _ hr
        exact h25 (rayB_lt hr)
      rw [this]
      simp [h25]
  have eqk : ∀ m : Nat, m < 100 → (nI k = nI m ↔ k = m) := fun m hm => nI_eq (by omega) (by omega)
  have e0 := eqk 0 (by omega)
  have e1 := eqk 1 (by omega)
  have e2 := eqk 2 (by omega)
  have e3 := eqk 3 (by omega)
  have e4 := eqk 4 (by omega)
  rw [B_isSquare_y hf, if_pos rfl]
  show (if nI k = nI 0 then _ else if nI k = nI 1 then _ else if nI k = nI 2 then _ else if nI k = nI 3 then _ else if nI k = nI 4 then _ else _) = _
  simp only [e0, e1, e2, e3, e4]
  rcases (show k = 0 ∨ k = 1 ∨ k = 2 ∨ k = 3 ∨ k = 4 ∨ k = 5 by omega) with rfl | rfl | rfl | rfl | rfl | rfl
  · rw [if_pos rfl]
    show some _ = _
    congr 1
    refine bits_of (by omega) (fun t ht => ?_)
    rw [b_and, around_bt f hf t ht, xor_m1 _ ht, Bool.and_assoc]
    rfl
  · rw [if_neg (by omega), if_pos rfl]
    have := line 0 8 (by omega) (by omega)
    simp only [Nat.zero_add] at this
    exact this
  · rw [if_neg (by omega), if_neg (by omega), if_pos rfl]
    have := line 0 4 (by omega) (by omega)
    simp only [Nat.zero_add] at this
    exact this
  · rw [if_neg (by omega), if_neg (by omega), if_neg (by omega), if_pos rfl]
    exact line 4 8 (by omega) (by omega)
  · rw [if_neg (by omega), if_neg (by omega), if_neg (by omega), if_neg (by omega), if_pos rfl, B_jumps hf h]
    show some _ = _
    congr 1
    refine bits_of (by omega) (fun t ht => ?_)
    rw [b_and, bits_bt _ 25 (by omega) t ht, xor_m1 _ ht, Bool.and_assoc]
    rfl
  · rw [if_neg (by omega), if_neg (by omega), if_neg (by omega), if_neg (by omega), if_neg (by omega)]
    unfold fB_pawnSteps fB_pawnSteps_0 fB_pawnSteps_9
    have hp := stp_pawn f hf
    have three : ∀ up : Int32, ∀ u : Int, (∀ x, x < 3 → fB_bitOf (fB_stepFrom (nI f) (nI x - 1) up) = if stp f ((x : Nat) - 1) u < 25 then rb_shl 1 (nI (stp f ((x : Nat) - 1) u)) else 0) →
        ((fB_bitOf (fB_stepFrom (nI f) 0 up) &&& ((own ||| foe) ^^^ (-1))) ||| ((fB_bitOf (fB_stepFrom (nI f) (-1) up) ||| fB_bitOf (fB_stepFrom (nI f) 1 up)) &&& foe)) = bits (fun t => (decide (stp f 0 u = t) && !(bt own t || bt foe t)) || ((decide (stp f (-1) u = t) || decide (stp f 1 u = t)) && bt foe t)) 25 := by
      intro up u hu
      have u1 := hu 1 (by omega)
      have u0 := hu 0 (by omega)
      have u2 := hu 2 (by omega)
      rw [show nI 1 - 1 = (0 : Int32) from rfl, show (((1 : Nat) : Int) - 1) = 0 from rfl] at u1
      rw [show nI 0 - 1 = (-1 : Int32) by decide, show (((0 : Nat) : Int) - 1) = -1 from rfl] at u0
      rw [show nI 2 - 1 = (1 : Int32) by decide, show (((2 : Nat) : Int) - 1) = 1 from rfl] at u2
      rw [u0, u1, u2]
      refine bits_of (by omega) (fun t ht => ?_)
      rw [b_or, b_and, b_and, b_or, xor_m1 _ ht, b_or]
      by_cases h25 : t < 25
      · rw [stp_bt h25, stp_bt h25, stp_bt h25]
        simp [h25]
      · rw [stp_bt2 (by omega) ht, stp_bt2 (by omega) ht, stp_bt2 (by omega) ht]
        simp [h25]
    rcases (show sd = 0 ∨ sd = 1 by omega) with rfl | rfl
    · rw [if_pos (show nI 0 = (0 : Int32) from rfl)]
      exact congrArg some (three 1 1 hp.1)
    · rw [if_neg (show ¬ nI 1 = (0 : Int32) by decide)]
      exact congrArg some (three (-1) (-1) hp.2)
/-- own ones and foes of a piece, it aside -/
def ownB (B : sBd) (p s : Nat) : Bool := occ B (fun i => decide (i ≠ p) && decide (bS B i = bS B p)) s
def foeB (B : sBd) (p s : Nat) : Bool := occ B (fun i => decide (i ≠ p) && decide (bS B i = 1 - bS B p)) s
/-- whether piece p can go from f to t -/
def goB (B : sBd) (p f t : Nat) : Bool := goC (bK B p) (bS B p) f (ownB B p) (foeB B p) t
theorem nI_sub1 {n : Nat} (h : n ≤ 1) : (1 : Int32) - nI n = nI (1 - n) := by
  rcases (show n = 0 ∨ n = 1 by omega) with rfl | rfl <;> decide
section
variable {h : rb_H} {o a : Nat} {B : sBd}
theorem own_bt {p s : Nat} (hs : s < 25) : bt (bits (ownB B p) 25) s = ownB B p s := by rw [bits_bt _ 25 (by omega) s (by omega)]; simp [hs]
theorem foe_bt {p s : Nat} (hs : s < 25) : bt (bits (foeB B p) 25) s = foeB B p s := by rw [bits_bt _ 25 (by omega) s (by omega)]; simp [hs]
theorem S_reach_y (hR : RS h o B) (hW : WF B) {p : Nat} (hp : p < bN B) (hs : bP B p ≠ 25) : fS_reach o (nI p) h = some (bits (goB B p (bP B p)) 25) := by
  have h8 := hW.1
  have hw := hW.2.2.1 p hp
  unfold fS_reach fS_reach_0
  simp only [S_stands_y hR hW hp, Option.bind_some, hs, ne_eq, not_false_eq_true, decide_true, if_true, if_neg (oob_n (show p < 8 by omega) (by omega)), cl_n (show p < 2 ^ 31 by omega), (hR.2.2.2.2 p hp).1, (hR.2.2.2.2 p hp).2.1, (hR.2.2.2.2 p hp).2.2.1, nI_sub1 hw.2.1]
  rw [S_squaresOf hR hW (by omega) (by omega), Option.bind_some, S_squaresOf hR hW (by omega) (by omega), Option.bind_some, B_reachOf hw.1 hw.2.1 (by omega) h, Option.bind_some]
  congr 1
  exact bits_congr (fun t ht => goC_congr (fun s hs => own_bt hs) (fun s hs => foe_bt hs) ht)
theorem S_reach_o (hR : RS h o B) (hW : WF B) {p : Nat} (hp : p < bN B) (hs : bP B p = 25) : fS_reach o (nI p) h = some 0 := by
  unfold fS_reach fS_reach_0
  simp [S_stands_y hR hW hp, hs]
end
