/-! what the functions are made of, and small steps of their proofs -/
def rb_shl (x y : Int32) : Int32 := x <<< (y &&& 31)
def rb_shr (x y : Int32) : Int32 := x >>> (y &&& 31)
def rb_ushr (x y : Int32) : Int32 := (x.toUInt32 >>> (y.toUInt32 &&& Int32.toUInt32 31)).toInt32
def rb_rem (x y : Int32) : Int32 := x - x / y * y
def rb_lrem (x y : Int64) : Int64 := x - x / y * y
def rb_max (x y : Int32) : Int32 := if x < y then y else x
def rb_min (x y : Int32) : Int32 := if y < x then y else x
def rb_abs (x : Int32) : Int32 := if 0 ≤ x then x else 0 - x
def rb_lmax (x y : Int64) : Int64 := if y < x then x else y
def rb_i2b (x : Int32) : Int32 := x.toInt8.toInt32
def rb_i2s (x : Int32) : Int32 := x.toInt16.toInt32
def rb_i2c (x : Int32) : Int32 := (x.toUInt32 % 65536).toInt32
def rb_b2i (b : Bool) : Int32 := bif b then 1 else 0
def rb_lt {α β : Type} (a : α) (f : α → β) : β := f a
def rb_iter {S X : Type} : Nat → (S → Option (S ⊕ X)) → S → Option X
  | 0, _, _ => none
  | n + 1, f, s => match f s with
    | none => none
    | some (.inl s') => rb_iter n f s'
    | some (.inr x) => some x
theorem rb_fuel_is : ∃ n : Nat, n = 4294967296 := ⟨_, rfl⟩
/-- how often a loop may go round: a number that no unifier counts down -/
noncomputable def rb_fuel : Nat := Classical.choose rb_fuel_is
theorem rb_fuel_eq : rb_fuel = 4294967296 := Classical.choose_spec rb_fuel_is
theorem rb_deep_is : ∃ n : Nat, n = 150 := ⟨_, rfl⟩
noncomputable def rb_deep : Nat := Classical.choose rb_deep_is
theorem rb_deep_eq : rb_deep = 150 := Classical.choose_spec rb_deep_is
theorem rb_iter_ok {S X : Type} {body : S → Option (S ⊕ X)} {P : S → Prop} {E : X → Prop} (step : ∀ s D, body s = some D → Sum.elim P E D → P s) {x : X} (k : E x) : ∀ (n : Nat) (s : S), rb_iter n body s = some x → P s
  | 0, s, h => by cases h
  | n + 1, s, h => by
    unfold rb_iter at h
    cases hb : body s with
    | none => rw [hb] at h; cases h
    | some D =>
      rw [hb] at h
      cases D with
      | inl s' => exact step s _ hb (rb_iter_ok step k n s' h)
      | inr y => cases h; exact step s _ hb k
theorem rb_iter_at {S X : Type} {n : Nat} {body : S → Option (S ⊕ X)} {s : S} {x : X} (hit : rb_iter n body s = some x) {P : S → Prop} {E : X → Prop} (k : E x) (step : ∀ s D, body s = some D → Sum.elim P E D → P s) : P s := rb_iter_ok step k n s hit
theorem rb_it {α : Type} {c : Prop} {i : Decidable c} {a b r : α} (h : @ite α c i a b = r) (hc : c) : a = r := by rw [if_pos hc] at h; exact h
theorem rb_if {α : Type} {c : Prop} {i : Decidable c} {a b r : α} (h : @ite α c i a b = r) (hc : ¬ c) : b = r := by rw [if_neg hc] at h; exact h
theorem rb_gd {α : Type} {c : Prop} {i : Decidable c} {b : Option α} {r : α} {P : Prop} (h : @ite (Option α) c i none b = some r) (k : ¬ c → b = some r → P) : P := by
  by_cases hc : c
  · rw [if_pos hc] at h; cases h
  · rw [if_neg hc] at h; exact k hc h
theorem rb_gp {α : Type} {c : Prop} {i : Decidable c} {b : Option α} {r : α} {P : Prop} (h : @ite (Option α) c i b none = some r) (k : c → b = some r → P) : P := by
  by_cases hc : c
  · rw [if_pos hc] at h; exact k hc h
  · rw [if_neg hc] at h; cases h
theorem rb_bd {α β : Type} {a : Option α} {f : α → Option β} {r : β} {P : Prop} (h : a.bind f = some r) (k : ∀ u, a = some u → f u = some r → P) : P := by
  cases ha : a with
  | none => rw [ha] at h; cases h
  | some u => rw [ha] at h; exact k u ha h
theorem rb_ld {α β : Type} {a : α} {f : α → β} {r : β} {P : Prop} (h : rb_lt a f = r) (k : ∀ u, a = u → f u = r → P) : P := k a rfl h
theorem rb_no {α : Type} {r : α} {P : Prop} (h : (none : Option α) = some r) : P := by cases h
theorem rb_dn {p : Prop} (h : ¬ ¬ p) : p := Classical.not_not.mp h
theorem rb_b0 {e : Bool} (h : rb_b2i e = 0) : ¬ e = true := by cases e with
  | false => exact Bool.false_ne_true
  | true => exact absurd h (by decide)
theorem rb_b1 {e : Bool} (h : ¬ rb_b2i e = 0) : e = true := by cases e with
  | false => exact absurd rfl h
  | true => rfl
theorem rb_nz {c : Prop} {i : Decidable c} (h : @decide c i = false) : ¬ c := of_decide_eq_false h
theorem rb_ob {c : Prop} {i : Decidable c} (h : @decide c i = false) : ¬ c := of_decide_eq_false h
theorem rb_ns {c : Prop} {i : Decidable c} (h : @decide c i = false) : ¬ c := of_decide_eq_false h
theorem rb_ol {a n : Nat} {i : Int32} (h : rb_len a = n) (k : ¬ rb_oob i n) : ¬ rb_oob i (rb_len a) := by rw [h]; exact k
theorem rb_al {o t : Nat} (h : rb_ty o = t) (hc : (Nat.ble 10 t && Nat.blt t 17) = true) : 10 ≤ rb_ty o ∧ rb_ty o < 17 := by
  rw [Bool.and_eq_true] at hc
  rw [h]
  exact ⟨Nat.le_of_ble_eq_true hc.1, Nat.le_of_ble_eq_true hc.2⟩
theorem rb_le {a n x : Nat} (h : rb_len a = n) (hc : Nat.ble x n = true) : x ≤ rb_len a := by rw [h]; exact Nat.le_of_ble_eq_true hc
theorem rb_dr {c b n : Nat} (h : Nat.ble (c + 1) b = true) : c < b + n := Nat.lt_of_lt_of_le (Nat.le_of_ble_eq_true h) (Nat.le_add_right _ _)
theorem rb_dp {b d : Nat} (h : Nat.ble (b + 151) d = true) : b + rb_deep < d := by
  rw [rb_deep_eq]
  exact Nat.lt_of_lt_of_le (Nat.add_lt_add_left (by decide) b) (Nat.le_of_ble_eq_true h)
theorem rb_lf {S : Type} {T : S → Prop} {d D : S} (hF : some d = some D) (hT : T D) : T d := by cases hF; exact hT
theorem rb_sm {A B R : Type} {f1 : A → R} {f2 : B → R} {r : R} {Q1 : A → Prop} {Q2 : B → Prop} (x : A ⊕ B) (hF : Sum.elim f1 f2 x = r) (k1 : ∀ s, f1 s = r → Q1 s) (k2 : ∀ s, f2 s = r → Q2 s) : Sum.elim Q1 Q2 x := by
  cases x with
  | inl s => exact k1 s hF
  | inr s => exact k2 s hF
theorem rb_rs {α β : Type} (f : α → β) {a r : α} (h : some a = some r) : f r = f a := by cases h; rfl
theorem rb_rt {α β : Type} (f : α → β) {a r : α} (h : a = r) : f r = f a := by cases h; rfl
theorem rb_ni {x : Int32} : rb_nr (some .int) x := ⟨_, rfl, rfl⟩
theorem rb_nb (b : Bool) : narrow .boolean (.int (rb_b2i b)) = .int (rb_b2i b) := by cases b <;> rfl
def rb_rI (h : rb_H) (r : Int32) : Option Value × rb_H := (some (.int r), h)
def rb_rIw (r : Int32 × rb_H) : Option Value × rb_H := (some (.int r.1), r.2)
def rb_rZ (h : rb_H) (r : Bool) : Option Value × rb_H := (some (.int (rb_b2i r)), h)
def rb_rZw (r : Bool × rb_H) : Option Value × rb_H := (some (.int (rb_b2i r.1)), r.2)
def rb_rJ (h : rb_H) (r : Int64) : Option Value × rb_H := (some (.long r), h)
def rb_rJw (r : Int64 × rb_H) : Option Value × rb_H := (some (.long r.1), r.2)
def rb_rV (h : rb_H) (_ : Unit) : Option Value × rb_H := (none, h)
def rb_rVw (r : rb_H) : Option Value × rb_H := (none, r)
def rb_rS (h : rb_H) (r : Nat) : Option Value × rb_H := (some (.retAddr r), h)
/-- a boolean answer that was computed -/
theorem rb_zr {h : rb_H} {x : Int32} {r : Bool} (hF : (if x = 0 then some false else if x = 1 then some true else none) = some r) : rb_nr (some .boolean) x ∧ rb_rZ h r = (some (.int x), h) := by
  by_cases h0 : x = 0
  · subst h0; rw [if_pos rfl] at hF; cases hF; exact ⟨⟨_, rfl, rfl⟩, rfl⟩
  · rw [if_neg h0] at hF
    by_cases h1 : x = 1
    · subst h1; rw [if_pos rfl] at hF; cases hF; exact ⟨⟨_, rfl, rfl⟩, rfl⟩
    · rw [if_neg h1] at hF; cases hF
/-- a State, a Rule, Facts: an object, and its arrays behind it -/
def rb_sO (x : Nat) : Prop := rb_ty x = 5 ∧ ∀ k, k < 5 → rb_ty (x + (k + 1)) = 10 ∧ rb_len (x + (k + 1)) = 8
def rb_uO (x : Nat) : Prop := rb_ty x = 4 ∧ ∀ k, k < 5 → rb_ty (x + (k + 1)) = [10, 10, 10, 11, 10].getD k 0 ∧ rb_len (x + (k + 1)) = [40, 40, 40, 5, 7].getD k 0
def rb_fO (x : Nat) : Prop := rb_ty x = 0 ∧ ∀ k, k < 2 → rb_ty (x + (k + 1)) = 10 ∧ rb_len (x + (k + 1)) = 12
def rb_sB (x : Nat) : Bool := Nat.ble rb_base x && Nat.blt x rb_N && (x - rb_base) % 6 == 0
theorem rb_sO_of {x : Nat} (h : rb_sB x = true) : rb_sO x := by
  have hx : x < rb_N := by
    unfold rb_sB at h
    simp only [Bool.and_eq_true] at h
    exact Nat.le_of_ble_eq_true h.1.2
  have key : ∀ x, x < rb_N → rb_sB x = true → rb_sO x := by unfold rb_sO; decide +kernel
  exact key x hx h
theorem rb_uO_of {x : Nat} (h : x = 5 ∨ x = 11) : rb_uO x := by
  rcases h with rfl | rfl <;> (unfold rb_uO; decide +kernel)
theorem rb_fO_of {x : Nat} (h : x = 17 ∨ x = 20) : rb_fO x := by
  rcases h with rfl | rfl <;> (unfold rb_fO; decide +kernel)
theorem rb_lt_of {i : Int32} {n : Nat} (h : ¬ rb_oob i n) : i.toNatClampNeg < n := Nat.not_le.mp fun z => h (Or.inr z)
theorem rb_raS24 {i : Int32} (h : ¬ rb_oob i 12) : rb_sO (rb_ra 24 i.toNatClampNeg) := by
  have key : ∀ n, n < 12 → rb_sB (rb_ra 24 n) = true := by decide +kernel
  exact rb_sO_of (key _ (rb_lt_of h))
theorem rb_raS25 {i : Int32} (h : ¬ rb_oob i 2) : rb_sO (rb_ra 25 i.toNatClampNeg) := by
  have key : ∀ n, n < 2 → rb_sB (rb_ra 25 n) = true := by decide +kernel
  exact rb_sO_of (key _ (rb_lt_of h))
theorem rb_raI32 {i : Int32} (h : ¬ rb_oob i 6) : rb_ty (rb_ra 32 i.toNatClampNeg) = 10 ∧ rb_len (rb_ra 32 i.toNatClampNeg) = 25 := by
  have key : ∀ n, n < 6 → rb_ty (rb_ra 32 n) = 10 ∧ rb_len (rb_ra 32 n) = 25 := by decide +kernel
  exact key _ (rb_lt_of h)
theorem rb_raI39 {i : Int32} (h : ¬ rb_oob i 7) : rb_ty (rb_ra 39 i.toNatClampNeg) = 10 ∧ rb_len (rb_ra 39 i.toNatClampNeg) = 25 := by
  have key : ∀ n, n < 7 → rb_ty (rb_ra 39 n) = 10 ∧ rb_len (rb_ra 39 n) = 25 := by decide +kernel
  exact key _ (rb_lt_of h)
theorem rb_raI66 {i : Int32} (h : ¬ rb_oob i 7) : rb_ty (rb_ra 66 i.toNatClampNeg) = 10 ∧ rb_len (rb_ra 66 i.toNatClampNeg) = 25 := by
  have key : ∀ n, n < 7 → rb_ty (rb_ra 66 n) = 10 ∧ rb_len (rb_ra 66 n) = 25 := by decide +kernel
  exact key _ (rb_lt_of h)
theorem rb_raI74 {i : Int32} (h : ¬ rb_oob i 4) : rb_ty (rb_ra 74 i.toNatClampNeg) = 10 ∧ rb_len (rb_ra 74 i.toNatClampNeg) = 27 := by
  have key : ∀ n, n < 4 → rb_ty (rb_ra 74 n) = 10 ∧ rb_len (rb_ra 74 n) = 27 := by decide +kernel
  exact key _ (rb_lt_of h)
theorem rb_raI79 {i : Int32} (h : ¬ rb_oob i 3) : rb_ty (rb_ra 79 i.toNatClampNeg) = 10 ∧ rb_len (rb_ra 79 i.toNatClampNeg) = 3 := by
  have key : ∀ n, n < 3 → rb_ty (rb_ra 79 n) = 10 ∧ rb_len (rb_ra 79 n) = 3 := by decide +kernel
  exact key _ (rb_lt_of h)
theorem rb_sby {x : Nat} (h : 100 ≤ x ∧ x < 100 + rb_nS) : 200 ≤ 100 + x ∧ 100 + x < 200 + rb_nS := by omega
theorem rb_ctq (g : rb_G) (x y : Int32) : rb_ct [.int x, .int y, rb_so g] ≤ 3 := by
  have h : (rb_so g).category = 1 := by unfold rb_so; split <;> rfl
  show 1 + (1 + ((rb_so g).category + 0)) ≤ 3
  rw [h]
  decide
