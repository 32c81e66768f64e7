/-! where a piece can go: the class's bits -/
/-- column and row, and a step; 25: off the board -/
def stp (s : Nat) (dx dy : Int) : Nat :=
  let x := ((s % 5 : Nat) : Int) + dx
  let y := ((s / 5 : Nat) : Int) + dy
  if 0 ≤ x ∧ x < 5 ∧ 0 ≤ y ∧ y < 5 then (5 * y + x).toNat else 25
def dirX (d : Nat) : Int := [1, -1, 0, 0, 1, 1, -1, -1].getD d 0
def dirY (d : Nat) : Int := [0, 0, 1, -1, 1, -1, 1, -1].getD d 0
def jmpX (d : Nat) : Int := [1, 2, 2, 1, -1, -2, -2, -1].getD d 0
def jmpY (d : Nat) : Int := [2, 1, -1, -2, -2, -1, 1, 2].getD d 0
def nx (d s : Nat) : Nat := stp s (dirX d) (dirY d)
theorem stp_dir : ∀ d, d < 8 → ∀ s, s < 25 → fB_stepFrom (nI s) (rb_sv 1 d) (rb_sv 2 d) = if nx d s < 25 then nI (nx d s) else -1 := by
  unfold fB_stepFrom fB_stepFrom_0 fB_stepFrom_37 fB_stepFrom_38; decide +kernel
theorem stp_jmp : ∀ d, d < 8 → ∀ s, s < 25 → fB_stepFrom (nI s) (rb_sv 3 d) (rb_sv 4 d) = if stp s (jmpX d) (jmpY d) < 25 then nI (stp s (jmpX d) (jmpY d)) else -1 := by
  unfold fB_stepFrom fB_stepFrom_0 fB_stepFrom_37 fB_stepFrom_38; decide +kernel
/-- along a direction, up to the first square that is taken -/
def rayB (T : Nat → Bool) (d : Nat) : Nat → Nat → Nat → Bool
  | 0, _, _ => false
  | m + 1, s, t => decide (nx d s < 25) && (decide (nx d s = t) || (!T (nx d s) && rayB T d m (nx d s) t))
theorem xor_m1 (x : Int32) {i : Nat} (hi : i < 32) : bt (x ^^^ (-1)) i = !bt x i := by
  rw [b_xor, b_m1 i hi]
  cases bt x i <;> rfl
theorem B_lines_in {T : Int32} {d f : Nat} (hd : d < 8) (hf : f < 25) (v0 v2 found : Int32) (h : rb_H) : ∃ x, rb_iter rb_fuel (fun s => fB_lines_40b v0 v2 T s.1 (nI d) s.2.1 s.2.2 h) (found, nI f, 1) = some x ∧
    ∀ t, t < 32 → bt (Sum.elim id (Sum.elim id id) x) t = (bt found t || rayB (fun s => bt T s) d 4 f t) := by
  refine rb_loop (fun s : Int32 × Int32 × Int32 => ∃ k q, k ≤ 4 ∧ q < 25 ∧ s.2.2 = nI (5 - k) ∧ s.2.1 = nI q ∧ ∀ t, t < 32 → (bt s.1 t || rayB (fun s => bt T s) d k q t) = (bt found t || rayB (fun s => bt T s) d 4 f t)) _ (fun s => 5 - s.2.2.toNatClampNeg) ⟨4, f, by omega, hf, rfl, rfl, fun t _ => rfl⟩ ?_ ?_
  · show 5 - (1 : Int32).toNatClampNeg < _
    omega
  · rintro ⟨fd, at_, fr⟩ ⟨k, q, hk, hq, e1, e2, hb⟩
    dsimp only at e1 e2 hb ⊢
    subst e1
    subst e2
    unfold fB_lines_40b
    have hst := stp_dir d hd q hq
    have hcl : (nI d).toNatClampNeg = d := cl_n (by omega)
    by_cases hk0 : k = 0
    · subst hk0
      refine Or.inr ⟨_, if_pos (by decide), fun t ht => ?_⟩
      have := hb t ht
      rw [← this]
      show bt fd t = (bt fd t || false)
      rw [Bool.or_false]
    · obtain ⟨m, rfl⟩ : ∃ m, k = m + 1 := ⟨k - 1, by omega⟩
      have h5 : ¬ (5 : Int32) ≤ nI (5 - (m + 1)) := by show ¬ nI 5 ≤ _; exact nI_ge (by omega) (by omega)
      simp only [if_neg h5, if_neg (oob_n (show d < 8 by omega) (by omega)), hcl, rb_lt, hst]
      by_cases hn : nx d q < 25
      · have hpos : (0 : Int32) ≤ nI (nx d q) := nI_pos' (by omega)
        simp only [if_pos hn, if_pos hpos, holds_bt T (show nx d q < 32 by omega)]
        by_cases hT : bt T (nx d q) = true
        · refine Or.inr ⟨_, if_pos hT, fun t ht => ?_⟩
          rw [← hb t ht]
          show bt (fd ||| rb_shl 1 (nI (nx d q))) t = (bt fd t || (decide (nx d q < 25) && (decide (nx d q = t) || (!bt T (nx d q) && rayB _ d m (nx d q) t))))
          rw [b_or, shl1_bt (by omega) ht, hT]
          have : decide (t = nx d q) = decide (nx d q = t) := by simp [eq_comm]
          simp [hn, this]
        · refine Or.inl ⟨_, if_neg hT, ⟨m, nx d q, by omega, hn, ?_, rfl, fun t ht => ?_⟩, ?_⟩
          · show nI (5 - (m + 1)) + 1 = nI (5 - m)
            rw [nI_1]
            congr 1
            omega
          · rw [← hb t ht]
            show (bt (fd ||| rb_shl 1 (nI (nx d q))) t || rayB _ d m (nx d q) t) = (bt fd t || (decide (nx d q < 25) && (decide (nx d q = t) || (!bt T (nx d q) && rayB _ d m (nx d q) t))))
            have hT : bt T (nx d q) = false := by cases h : bt T (nx d q) <;> simp_all
            rw [b_or, shl1_bt (by omega) ht, hT]
            have : decide (t = nx d q) = decide (nx d q = t) := by simp [eq_comm]
            simp [hn, this, Bool.or_assoc]
          · show 5 - (nI (5 - (m + 1)) + 1).toNatClampNeg < 5 - (nI (5 - (m + 1))).toNatClampNeg
            rw [nI_1, cl_n (by omega), cl_n (by omega)]
            omega
      · simp only [if_neg hn]
        refine Or.inr ⟨_, if_neg (by decide), fun t ht => ?_⟩
        rw [← hb t ht]
        show bt fd t = (bt fd t || (decide (nx d q < 25) && _))
        simp [hn]
theorem B_lines {T : Int32} {f lo hi : Nat} (hlo : lo ≤ hi) (hhi : hi ≤ 8) (hf : f < 25) (h : rb_H) : fB_lines (nI f) (nI lo) (nI hi) T h = some (bits (fun t => (List.range (hi - lo)).any fun d => rayB (fun s => bt T s) (lo + d) 4 f t) 32) := by
  unfold fB_lines fB_lines_0
  have hmax : rb_max (nI lo) 0 = nI lo := by
    unfold rb_max
    rw [if_neg (nI_pos (by omega))]
  rw [hmax]
  have main : ∃ x, rb_iter rb_fuel (fun s => fB_lines_10b (nI f) (nI hi) T s.1 s.2 h) ((0 : Int32), nI lo) = some x ∧ ∀ t, t < 32 → bt x t = (List.range (hi - lo)).any fun d => rayB (fun s => bt T s) (lo + d) 4 f t := by
    refine rb_loop (fun s : Int32 × Int32 => ∃ k, k ≤ hi - lo ∧ s.2 = nI (lo + k) ∧ ∀ t, t < 32 → bt s.1 t = (List.range k).any fun d => rayB (fun s => bt T s) (lo + d) 4 f t) _ (fun s => 9 - s.2.toNatClampNeg) ⟨0, by omega, rfl, fun t _ => by rw [b_0]; rfl⟩ ?_ ?_
    · show 9 - (nI lo).toNatClampNeg < _
      omega
    · rintro ⟨fd, i⟩ ⟨k, hk, e1, hb⟩
      dsimp only at e1 hb ⊢
      subst e1
      unfold fB_lines_10b
      by_cases hke : k = hi - lo
      · refine Or.inr ⟨_, if_pos (nI_le (by omega) (by omega)), fun t ht => ?_⟩
        rw [hb t ht, hke]
      · have hlt : lo + k < hi := by omega
        have h8 : ¬ (8 : Int32) ≤ nI (lo + k) := by show ¬ nI 8 ≤ _; exact nI_ge (by omega) (by omega)
        obtain ⟨x, hx1, hx2⟩ := B_lines_in (T := T) (d := lo + k) (f := f) (by omega) hf (nI f) (nI hi) fd h
        refine Or.inl ⟨(Sum.elim id (Sum.elim id id) x, nI (lo + k) + 1), ?_, ⟨k + 1, by omega, ?_, fun t ht => ?_⟩, ?_⟩
        · simp only [if_neg (nI_ge hlt (show hi < 2 ^ 31 by omega)), if_neg h8, hx1, Option.bind_some]
          rcases x with x | x | x <;> rfl
        · show nI (lo + k) + 1 = _
          rw [nI_1]; rfl
        · show bt (Sum.elim id (Sum.elim id id) x) t = _
          rw [hx2 t ht, hb t ht, List.range_succ, List.any_append]
          simp
        · show 9 - (nI (lo + k) + 1).toNatClampNeg < 9 - (nI (lo + k)).toNatClampNeg
          rw [nI_1, cl_n (by omega), cl_n (by omega)]
          omega
  obtain ⟨x, hx1, hx2⟩ := main
  rw [hx1]
  show some x = _
  congr 1
  exact bits_of (by omega) (fun t ht => by rw [hx2 t ht]; simp [ht])
