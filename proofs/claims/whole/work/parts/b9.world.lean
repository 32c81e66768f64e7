/-! the first world: the cells that the constructors made, and the empty state -/
def wo_plL : List Nat := [0, 1, 2, 3, 4, 5, 6, 7, 8, 9, 10, 11, 12, 13, 14, 15, 16, 123, 124, 125, 126, 127, 128, 35, 36, 109, 122, 129, 130, 131, 132, 133, 134, 135, 136, 137, 138, 139, 140, 141, 142, 143, 144, 145, 146, 147, 148, 149, 162, 163, 164, 165, 166, 167, 168, 169, 170, 171, 172, 173, 174, 175, 176, 177, 178, 179, 180, 181, 182, 183, 184, 185, 186, 187, 188, 189, 190, 191, 192, 193, 194, 195, 196, 197, 198, 199, 200, 201, 202, 203, 204, 205, 206, 207]
def wo_stL : List Nat := [17, 23, 29, 37, 43, 49, 55, 61, 67, 73, 79, 85, 91, 97, 103, 110, 116, 150, 156]
def wo_pl (i : Nat) : Nat := if i < 94 then wo_plL.getD i 0 else wo_stL.getD ((i - 94) / 6) 0 + (i - 94) % 6
def wo_ivL : List Nat := [0, 1, 2, 3, 4, 5, 6, 7, 8, 9, 10, 11, 12, 13, 14, 15, 16, 94, 95, 96, 97, 98, 99, 100, 101, 102, 103, 104, 105, 106, 107, 108, 109, 110, 111, 23, 24, 112, 113, 114, 115, 116, 117, 118, 119, 120, 121, 122, 123, 124, 125, 126, 127, 128, 129, 130, 131, 132, 133, 134, 135, 136, 137, 138, 139, 140, 141, 142, 143, 144, 145, 146, 147, 148, 149, 150, 151, 152, 153, 154, 155, 156, 157, 158, 159, 160, 161, 162, 163, 164, 165, 166, 167, 168, 169, 170, 171, 172, 173, 174, 175, 176, 177, 178, 179, 180, 181, 182, 183, 25, 184, 185, 186, 187, 188, 189, 190, 191, 192, 193, 194, 195, 26, 17, 18, 19, 20, 21, 22, 27, 28, 29, 30, 31, 32, 33, 34, 35, 36, 37, 38, 39, 40, 41, 42, 43, 44, 45, 46, 47, 196, 197, 198, 199, 200, 201, 202, 203, 204, 205, 206, 207, 48, 49, 50, 51, 52, 53, 54, 55, 56, 57, 58, 59, 60, 61, 62, 63, 64, 65, 66, 67, 68, 69, 70, 71, 72, 73, 74, 75, 76, 77, 78, 79, 80, 81, 82, 83, 84, 85, 86, 87, 88, 89, 90, 91, 92, 93]
theorem wo_iv : ∀ i, i < rb_N → wo_ivL.getD (wo_pl i) 999 = i := by decide +kernel
def wo_g (D : va_G) (tc : Nat → ClassId) (B : Nat) (as : Nat → Nat) (so : Bool) (L : Nat) (xs : Nat → Int32) : rb_G := ((D, tc), ((fun i => B + wo_pl i), as), (so, L, xs))
def wo_h : rb_H := (fun _ _ => 0, fun _ _ => 0, fun a k => if a = 17 then (if k = 0 then 12 else 0) else if a = 20 then (if k = 0 then 10 else 0) else 0, fun n => if n = 1 then 55 else if n = 2 then 56 else 0)
section WO
variable {D : va_G} {tc : Nat → ClassId} {B : Nat} {as : Nat → Nat} {so : Bool} {L : Nat} {xs : Nat → Int32} {H : Heap}
theorem wo_Dj : rb_Dj (wo_g D tc B as so L xs) := by
  intro i j hi hj e
  have e : B + wo_pl i = B + wo_pl j := e
  have e : wo_pl i = wo_pl j := by omega
  rw [← wo_iv i hi, ← wo_iv j hj, e]
abbrev wo_P (g : rb_G) (H : Heap) (i : Nat) : Prop := va_at (rb_D g) rb_cl (rb_ad g i, rb_ent g wo_h i) H
theorem wo_i {i t n p : Nat} (ht : rb_ty i = 10 + t) (h4 : t < 4) (hl : rb_len i = n) (hp : wo_pl i = p) (h : va_at (rb_D (wo_g D tc B as so L xs)) rb_cl (B + p, rm_i (wo_g D tc B as so L xs) t n) H) : wo_P (wo_g D tc B as so L xs) H i := by
  subst hp
  unfold wo_P
  rw [rb_ent_i _ wo_h ht (by omega) (by omega), hl]
  exact h
theorem wo_l {i n p : Nat} (ht : rb_ty i = 14) (hl : rb_len i = n) (hp : wo_pl i = p) (h : va_at (rb_D (wo_g D tc B as so L xs)) rb_cl (B + p, rm_l (wo_g D tc B as so L xs) n) H) : wo_P (wo_g D tc B as so L xs) H i := by
  subst hp
  unfold wo_P
  rw [rb_ent_l _ wo_h ht, hl]
  exact h
theorem arrV_as (cA : ClassId) (n : Nat) {f f' : Nat → Value} (h : ∀ j, j < n → f j = f' j) : arrV cA n f = arrV cA n f' := by
  unfold arrV
  exact congrArg (fun z => ({ cls := cA, slots := Array.ofFn z, vm := .none } : Cell)) (funext fun j => h j.val j.isLt)
theorem wo_r {i t n p : Nat} {f : Nat → Option Nat} (ht : rb_ty i = t) (h5 : 15 ≤ t) (hl : rb_len i = n) (hp : wo_pl i = p) (hf : ∀ j, j < n → f j = some (rb_ad (wo_g D tc B as so L xs) (rb_ra i j))) (h : va_at (rb_D (wo_g D tc B as so L xs)) rb_cl (B + p, .inl (rb_tc (wo_g D tc B as so L xs) t, (n, .inr (.inr (.inr (.inr f)))))) H) : wo_P (wo_g D tc B as so L xs) H i := by
  subst hp
  unfold wo_P
  rw [rb_ent_r _ wo_h ht h5, hl]
  show H[B + wo_pl i]? = some (vp_cell _ _)
  have h : H[B + wo_pl i]? = some (vp_cell _ _) := h
  rw [vp_cell_q] at h ⊢
  rw [h]
  exact congrArg some (arrV_as _ _ fun j hj => by rw [hf j hj])
theorem wo_o {i c p : Nat} {fs : List Value} (ht : rb_ty i = c) (hc : c < 10) (hp : wo_pl i = p) (hf : fs = (List.range (rb_nf c)).map (rb_fv (wo_g D tc B as so L xs) wo_h c i)) (h : va_at (rb_D (wo_g D tc B as so L xs)) rb_cl (B + p, .inr (c, fs)) H) : wo_P (wo_g D tc B as so L xs) H i := by
  subst hp
  unfold wo_P
  rw [rb_ent_o _ wo_h ht hc, ← hf]
  exact h
theorem wo_fj {i p : Nat} (hp : wo_pl i = p) : some (B + p) = some (rb_ad (wo_g D tc B as so L xs) i) := by
  subst hp
  rfl
theorem wo_v0 {c i k : Nat} {v : Int32} (hk : rb_fk c k = 0) (hv : rb_hF wo_h i k = v) : Value.int v = rb_fv (wo_g D tc B as so L xs) wo_h c i k := by
  subst hv
  unfold rb_fv
  rw [hk]
theorem wo_v1 {c i k p : Nat} (hk : rb_fk c k = 1) (hp : wo_pl (rb_sr c i k) = p) : Value.ref (B + p) = rb_fv (wo_g D tc B as so L xs) wo_h c i k := by
  subst hp
  unfold rb_fv
  rw [hk]
  rfl
theorem wo_v2 {c i k n p : Nat} (hk : rb_fk c k = n + 2) (h0 : rb_hR wo_h n ≠ 0) (hp : wo_pl (rb_hR wo_h n) = p) : Value.ref (B + p) = rb_fv (wo_g D tc B as so L xs) wo_h c i k := by
  subst hp
  unfold rb_fv
  rw [hk]
  show _ = if rb_hR wo_h n = 0 then _ else _
  rw [if_neg h0]
  rfl
theorem wo_v3 {c i k n : Nat} (hk : rb_fk c k = n + 2) (h0 : rb_hR wo_h n = 0) : Value.null = rb_fv (wo_g D tc B as so L xs) wo_h c i k := by
  unfold rb_fv
  rw [hk]
  show _ = if rb_hR wo_h n = 0 then _ else _
  rw [if_pos h0]
theorem wo_cons {f : Nat → Value} {x : Nat} {a : Value} {as : List Value} {xs : List Nat} (h : a = f x) (t : as = xs.map f) : a :: as = (x :: xs).map f := by
  rw [List.map_cons, h, t]
theorem rm_P_right {g : rb_G} {q n a : Nat} {M S : List va_E} (h : rm_P g H q (M ++ S)) (hl : M.length = n) (ha : q + n = a) : rm_P g H a S := by
  subst hl
  subst ha
  refine rm_P_of fun j e he => ?_
  have h2 := rm_P_at h (j := M.length + j) (e := e) (by rw [List.getElem?_append_right (by omega), Nat.add_sub_cancel_left]; exact he)
  rw [← Nat.add_assoc] at h2
  exact h2
theorem rm_P_tail {g : rb_G} {q : Nat} {x : va_E} {M : List va_E} (h : rm_P g H q (x :: M)) : rm_P g H (q + 1) M := rm_P_right (M := [x]) h rfl rfl
theorem rm_P_head {g : rb_G} {q : Nat} {x : va_E} {M : List va_E} (h : rm_P g H q (x :: M)) : va_at (rb_D g) rb_cl (q, x) H := rm_P_at h (j := 0) rfl
theorem wo_cut_RentBoard {g : rb_G} {q : Nat} (h : rm_P g H q (rm_LRentBoard g q)) : va_at (rb_D g) rb_cl (q, .inr (8, [.ref (q + 1), .ref (q + 3), .ref (q + 5), .ref (q + 11), .ref (q + 17), .ref (q + 23), .ref (q + 29), .ref (q + 35), .ref (q + 109), .ref (q + 122), .ref (q + 123), .ref (q + 126), .ref (q + 129), .ref (q + 149), .ref (q + 162)])) H ∧ rm_P g H (q + 1) (rm_LText g (q + 1)) ∧ rm_P g H (q + 3) (rm_LRow g (q + 3)) ∧ rm_P g H (q + 5) (rm_LRule g (q + 5)) ∧ rm_P g H (q + 11) (rm_LRule g (q + 11)) ∧ rm_P g H (q + 17) (rm_LState g (q + 17)) ∧ rm_P g H (q + 23) (rm_LState g (q + 23)) ∧ rm_P g H (q + 29) (rm_LState g (q + 29)) ∧ rm_P g H (q + 35) (rm_LPast g (q + 35)) ∧ rm_P g H (q + 109) ([rm_refs g 2 (va_up (va_up (fun _ => none) 0 (some (q + 110))) 1 (some (q + 116)))]) ∧ rm_P g H (q + 110) ((rm_LState g (q + 110) ++ rm_LState g (q + 116))) ∧ rm_P g H (q + 122) ([rm_i g 1 2]) ∧ rm_P g H (q + 123) (rm_LFacts g 12 (q + 123)) ∧ rm_P g H (q + 126) (rm_LFacts g 10 (q + 126)) ∧ rm_P g H (q + 129) (rm_LWalk g (q + 129)) ∧ rm_P g H (q + 149) (rm_LLookahead g (q + 149)) ∧ rm_P g H (q + 162) ([rm_i g 1 361]) := by
  have h0 := rm_P_head h
  have t := rm_P_tail h
  have l0 : ([] : List va_E).length = 0 := rfl
  have l1 := (rm_lenL (S := rm_LText g (q + 1)) l0 (show _ = 2 from rfl))
  have l2 := (rm_lenL (S := rm_LRow g (q + 3)) l1 (show _ = 2 from rfl))
  have l3 := (rm_lenL (S := rm_LRule g (q + 5)) l2 (show _ = 6 from rfl))
  have l4 := (rm_lenL (S := rm_LRule g (q + 11)) l3 (show _ = 6 from rfl))
  have l5 := (rm_lenL (S := rm_LState g (q + 17)) l4 (show _ = 6 from rfl))
  have l6 := (rm_lenL (S := rm_LState g (q + 23)) l5 (show _ = 6 from rfl))
  have l7 := (rm_lenL (S := rm_LState g (q + 29)) l6 (show _ = 6 from rfl))
  have l8 := (rm_lenL (S := rm_LPast g (q + 35)) l7 (show _ = 74 from rfl))
  have l9 := (rm_lenL (S := [rm_refs g 2 (va_up (va_up (fun _ => none) 0 (some (q + 110))) 1 (some (q + 116)))]) l8 (show _ = 1 from rfl))
  have l10 := (rm_lenL (S := (rm_LState g (q + 110) ++ rm_LState g (q + 116))) l9 (show _ = 12 from rfl))
  have l11 := (rm_lenL (S := [rm_i g 1 2]) l10 (show _ = 1 from rfl))
  have l12 := (rm_lenL (S := rm_LFacts g 12 (q + 123)) l11 (show _ = 3 from rfl))
  have l13 := (rm_lenL (S := rm_LFacts g 10 (q + 126)) l12 (show _ = 3 from rfl))
  have l14 := (rm_lenL (S := rm_LWalk g (q + 129)) l13 (show _ = 20 from rfl))
  have l15 := (rm_lenL (S := rm_LLookahead g (q + 149)) l14 (show _ = 13 from rfl))
  have l16 := (rm_lenL (S := [rm_i g 1 361]) l15 (show _ = 1 from rfl))
  have r15 := rm_P_right (a := q + 162) t l15 rfl
  have t := rm_P_left t
  have r14 := rm_P_right (a := q + 149) t l14 rfl
  have t := rm_P_left t
  have r13 := rm_P_right (a := q + 129) t l13 rfl
  have t := rm_P_left t
  have r12 := rm_P_right (a := q + 126) t l12 rfl
  have t := rm_P_left t
  have r11 := rm_P_right (a := q + 123) t l11 rfl
  have t := rm_P_left t
  have r10 := rm_P_right (a := q + 122) t l10 rfl
  have t := rm_P_left t
  have r9 := rm_P_right (a := q + 110) t l9 rfl
  have t := rm_P_left t
  have r8 := rm_P_right (a := q + 109) t l8 rfl
  have t := rm_P_left t
  have r7 := rm_P_right (a := q + 35) t l7 rfl
  have t := rm_P_left t
  have r6 := rm_P_right (a := q + 29) t l6 rfl
  have t := rm_P_left t
  have r5 := rm_P_right (a := q + 23) t l5 rfl
  have t := rm_P_left t
  have r4 := rm_P_right (a := q + 17) t l4 rfl
  have t := rm_P_left t
  have r3 := rm_P_right (a := q + 11) t l3 rfl
  have t := rm_P_left t
  have r2 := rm_P_right (a := q + 5) t l2 rfl
  have t := rm_P_left t
  have r1 := rm_P_right (a := q + 3) t l1 rfl
  have t := rm_P_left t
  have r0 := rm_P_right (a := q + 1) t l0 rfl
  exact ⟨h0, r0, r1, r2, r3, r4, r5, r6, r7, r8, r9, r10, r11, r12, r13, r14, r15⟩
theorem wo_cut_RentBoardModel {g : rb_G} {q : Nat} (h : rm_P g H q (rm_LRentBoardModel g q)) : va_at (rb_D g) rb_cl (q, .inr (9, [.ref (q + 1), .ref (q + 2), .int 0, .ref (q + 3), .int 0, .ref (q + 4), .int 0, .int 0, .null, .int 0, .int 0, .int 0, .int 0, .ref (q + 5), .ref (q + 6), .ref (q + 7), .int 0, .int 0, .ref (q + 8), .ref (q + 9), .int 0, .ref (q + 10), .ref (q + 11), .ref (q + 12), .int 0, .ref (q + 13), .ref (q + 14), .ref (q + 15), .ref (q + 16), .ref (q + 17), .ref (q + 25), .ref (q + 30), .ref (q + 34), .ref (q + 35), .ref (q + 36), .int 0, .ref (q + 37), .ref (q + 38), .int 0, .ref (q + 39), .ref (q + 40), .int 0, .int 0, .ref (q + 41), .ref (q + 42), .ref (q + 43)])) H ∧ rm_P g H (q + 1) ([rm_i g 0 27]) ∧ rm_P g H (q + 2) ([rm_i g 0 8]) ∧ rm_P g H (q + 3) ([rm_i g 3 80]) ∧ rm_P g H (q + 4) ([rm_l g 16]) ∧ rm_P g H (q + 5) ([rm_i g 0 32]) ∧ rm_P g H (q + 6) ([rm_i g 3 40]) ∧ rm_P g H (q + 7) ([rm_i g 3 40]) ∧ rm_P g H (q + 8) ([rm_i g 0 7]) ∧ rm_P g H (q + 9) ([rm_i g 0 324]) ∧ rm_P g H (q + 10) ([rm_i g 0 27]) ∧ rm_P g H (q + 11) ([rm_i g 0 27]) ∧ rm_P g H (q + 12) ([rm_i g 0 8]) ∧ rm_P g H (q + 13) ([rm_i g 0 320]) ∧ rm_P g H (q + 14) ([rm_i g 0 25]) ∧ rm_P g H (q + 15) ([rm_i g 0 25]) ∧ rm_P g H (q + 16) ([rm_i g 0 25]) ∧ rm_P g H (q + 17) (rm_grid g (q + 17) 7 25) ∧ rm_P g H (q + 25) (rm_grid g (q + 25) 4 27) ∧ rm_P g H (q + 30) (rm_grid g (q + 30) 3 3) ∧ rm_P g H (q + 34) ([rm_i g 0 3]) ∧ rm_P g H (q + 35) ([rm_i g 0 12]) ∧ rm_P g H (q + 36) ([rm_i g 0 12]) ∧ rm_P g H (q + 37) ([rm_i g 0 10]) ∧ rm_P g H (q + 38) ([rm_i g 0 10]) ∧ rm_P g H (q + 39) ([rm_i g 0 21]) ∧ rm_P g H (q + 40) ([rm_i g 1 400]) ∧ rm_P g H (q + 41) ([rm_i g 0 54]) ∧ rm_P g H (q + 42) ([rm_i g 1 2]) ∧ rm_P g H (q + 43) ([rm_i g 0 2]) := by
  have h0 := rm_P_head h
  have t := rm_P_tail h
  have l0 : ([] : List va_E).length = 0 := rfl
  have l1 := (rm_lenL (S := [rm_i g 0 27]) l0 (show _ = 1 from rfl))
  have l2 := (rm_lenL (S := [rm_i g 0 8]) l1 (show _ = 1 from rfl))
  have l3 := (rm_lenL (S := [rm_i g 3 80]) l2 (show _ = 1 from rfl))
  have l4 := (rm_lenL (S := [rm_l g 16]) l3 (show _ = 1 from rfl))
  have l5 := (rm_lenL (S := [rm_i g 0 32]) l4 (show _ = 1 from rfl))
  have l6 := (rm_lenL (S := [rm_i g 3 40]) l5 (show _ = 1 from rfl))
  have l7 := (rm_lenL (S := [rm_i g 3 40]) l6 (show _ = 1 from rfl))
  have l8 := (rm_lenL (S := [rm_i g 0 7]) l7 (show _ = 1 from rfl))
  have l9 := (rm_lenL (S := [rm_i g 0 324]) l8 (show _ = 1 from rfl))
  have l10 := (rm_lenL (S := [rm_i g 0 27]) l9 (show _ = 1 from rfl))
  have l11 := (rm_lenL (S := [rm_i g 0 27]) l10 (show _ = 1 from rfl))
  have l12 := (rm_lenL (S := [rm_i g 0 8]) l11 (show _ = 1 from rfl))
  have l13 := (rm_lenL (S := [rm_i g 0 320]) l12 (show _ = 1 from rfl))
  have l14 := (rm_lenL (S := [rm_i g 0 25]) l13 (show _ = 1 from rfl))
  have l15 := (rm_lenL (S := [rm_i g 0 25]) l14 (show _ = 1 from rfl))
  have l16 := (rm_lenL (S := [rm_i g 0 25]) l15 (show _ = 1 from rfl))
  have l17 := (rm_lenL (S := rm_grid g (q + 17) 7 25) l16 (show _ = 8 from rfl))
  have l18 := (rm_lenL (S := rm_grid g (q + 25) 4 27) l17 (show _ = 5 from rfl))
  have l19 := (rm_lenL (S := rm_grid g (q + 30) 3 3) l18 (show _ = 4 from rfl))
  have l20 := (rm_lenL (S := [rm_i g 0 3]) l19 (show _ = 1 from rfl))
  have l21 := (rm_lenL (S := [rm_i g 0 12]) l20 (show _ = 1 from rfl))
  have l22 := (rm_lenL (S := [rm_i g 0 12]) l21 (show _ = 1 from rfl))
  have l23 := (rm_lenL (S := [rm_i g 0 10]) l22 (show _ = 1 from rfl))
  have l24 := (rm_lenL (S := [rm_i g 0 10]) l23 (show _ = 1 from rfl))
  have l25 := (rm_lenL (S := [rm_i g 0 21]) l24 (show _ = 1 from rfl))
  have l26 := (rm_lenL (S := [rm_i g 1 400]) l25 (show _ = 1 from rfl))
  have l27 := (rm_lenL (S := [rm_i g 0 54]) l26 (show _ = 1 from rfl))
  have l28 := (rm_lenL (S := [rm_i g 1 2]) l27 (show _ = 1 from rfl))
  have l29 := (rm_lenL (S := [rm_i g 0 2]) l28 (show _ = 1 from rfl))
  have r28 := rm_P_right (a := q + 43) t l28 rfl
  have t := rm_P_left t
  have r27 := rm_P_right (a := q + 42) t l27 rfl
  have t := rm_P_left t
  have r26 := rm_P_right (a := q + 41) t l26 rfl
  have t := rm_P_left t
  have r25 := rm_P_right (a := q + 40) t l25 rfl
  have t := rm_P_left t
  have r24 := rm_P_right (a := q + 39) t l24 rfl
  have t := rm_P_left t
  have r23 := rm_P_right (a := q + 38) t l23 rfl
  have t := rm_P_left t
  have r22 := rm_P_right (a := q + 37) t l22 rfl
  have t := rm_P_left t
  have r21 := rm_P_right (a := q + 36) t l21 rfl
  have t := rm_P_left t
  have r20 := rm_P_right (a := q + 35) t l20 rfl
  have t := rm_P_left t
  have r19 := rm_P_right (a := q + 34) t l19 rfl
  have t := rm_P_left t
  have r18 := rm_P_right (a := q + 30) t l18 rfl
  have t := rm_P_left t
  have r17 := rm_P_right (a := q + 25) t l17 rfl
  have t := rm_P_left t
  have r16 := rm_P_right (a := q + 17) t l16 rfl
  have t := rm_P_left t
  have r15 := rm_P_right (a := q + 16) t l15 rfl
  have t := rm_P_left t
  have r14 := rm_P_right (a := q + 15) t l14 rfl
  have t := rm_P_left t
  have r13 := rm_P_right (a := q + 14) t l13 rfl
  have t := rm_P_left t
  have r12 := rm_P_right (a := q + 13) t l12 rfl
  have t := rm_P_left t
  have r11 := rm_P_right (a := q + 12) t l11 rfl
  have t := rm_P_left t
  have r10 := rm_P_right (a := q + 11) t l10 rfl
  have t := rm_P_left t
  have r9 := rm_P_right (a := q + 10) t l9 rfl
  have t := rm_P_left t
  have r8 := rm_P_right (a := q + 9) t l8 rfl
  have t := rm_P_left t
  have r7 := rm_P_right (a := q + 8) t l7 rfl
  have t := rm_P_left t
  have r6 := rm_P_right (a := q + 7) t l6 rfl
  have t := rm_P_left t
  have r5 := rm_P_right (a := q + 6) t l5 rfl
  have t := rm_P_left t
  have r4 := rm_P_right (a := q + 5) t l4 rfl
  have t := rm_P_left t
  have r3 := rm_P_right (a := q + 4) t l3 rfl
  have t := rm_P_left t
  have r2 := rm_P_right (a := q + 3) t l2 rfl
  have t := rm_P_left t
  have r1 := rm_P_right (a := q + 2) t l1 rfl
  have t := rm_P_left t
  have r0 := rm_P_right (a := q + 1) t l0 rfl
  exact ⟨h0, r0, r1, r2, r3, r4, r5, r6, r7, r8, r9, r10, r11, r12, r13, r14, r15, r16, r17, r18, r19, r20, r21, r22, r23, r24, r25, r26, r27, r28⟩
theorem wo_cut_Past {g : rb_G} {q : Nat} (h : rm_P g H q (rm_LPast g q)) : va_at (rb_D g) rb_cl (q, .inr (2, [.ref (q + 1), .int 0, .int 0])) H ∧ rm_P g H (q + 1) ([rm_refs g 12 (va_up (va_up (va_up (va_up (va_up (va_up (va_up (va_up (va_up (va_up (va_up (va_up (fun _ => none) 0 (some (q + 2))) 1 (some (q + 8))) 2 (some (q + 14))) 3 (some (q + 20))) 4 (some (q + 26))) 5 (some (q + 32))) 6 (some (q + 38))) 7 (some (q + 44))) 8 (some (q + 50))) 9 (some (q + 56))) 10 (some (q + 62))) 11 (some (q + 68)))]) ∧ rm_P g H (q + 2) (rm_LState g (q + 2)) ∧ rm_P g H (q + 8) (rm_LState g (q + 8)) ∧ rm_P g H (q + 14) (rm_LState g (q + 14)) ∧ rm_P g H (q + 20) (rm_LState g (q + 20)) ∧ rm_P g H (q + 26) (rm_LState g (q + 26)) ∧ rm_P g H (q + 32) (rm_LState g (q + 32)) ∧ rm_P g H (q + 38) (rm_LState g (q + 38)) ∧ rm_P g H (q + 44) (rm_LState g (q + 44)) ∧ rm_P g H (q + 50) (rm_LState g (q + 50)) ∧ rm_P g H (q + 56) (rm_LState g (q + 56)) ∧ rm_P g H (q + 62) (rm_LState g (q + 62)) ∧ rm_P g H (q + 68) (rm_LState g (q + 68)) := by
  have h0 := rm_P_head h
  have t := rm_P_tail h
  have l0 : ([] : List va_E).length = 0 := rfl
  have l1 : ([rm_refs g 12 (va_up (va_up (va_up (va_up (va_up (va_up (va_up (va_up (va_up (va_up (va_up (va_up (fun _ => none) 0 (some (q + 2))) 1 (some (q + 8))) 2 (some (q + 14))) 3 (some (q + 20))) 4 (some (q + 26))) 5 (some (q + 32))) 6 (some (q + 38))) 7 (some (q + 44))) 8 (some (q + 50))) 9 (some (q + 56))) 10 (some (q + 62))) 11 (some (q + 68)))]).length = 1 := rfl
  have l2 := (rm_lenL (S := rm_LState g (q + 2)) l1 (show _ = 6 from rfl))
  have l3 := (rm_lenL (S := rm_LState g (q + 8)) l2 (show _ = 6 from rfl))
  have l4 := (rm_lenL (S := rm_LState g (q + 14)) l3 (show _ = 6 from rfl))
  have l5 := (rm_lenL (S := rm_LState g (q + 20)) l4 (show _ = 6 from rfl))
  have l6 := (rm_lenL (S := rm_LState g (q + 26)) l5 (show _ = 6 from rfl))
  have l7 := (rm_lenL (S := rm_LState g (q + 32)) l6 (show _ = 6 from rfl))
  have l8 := (rm_lenL (S := rm_LState g (q + 38)) l7 (show _ = 6 from rfl))
  have l9 := (rm_lenL (S := rm_LState g (q + 44)) l8 (show _ = 6 from rfl))
  have l10 := (rm_lenL (S := rm_LState g (q + 50)) l9 (show _ = 6 from rfl))
  have l11 := (rm_lenL (S := rm_LState g (q + 56)) l10 (show _ = 6 from rfl))
  have l12 := (rm_lenL (S := rm_LState g (q + 62)) l11 (show _ = 6 from rfl))
  have l13 := (rm_lenL (S := rm_LState g (q + 68)) l12 (show _ = 6 from rfl))
  have r12 := rm_P_right (a := q + 68) t l12 rfl
  have t := rm_P_left t
  have r11 := rm_P_right (a := q + 62) t l11 rfl
  have t := rm_P_left t
  have r10 := rm_P_right (a := q + 56) t l10 rfl
  have t := rm_P_left t
  have r9 := rm_P_right (a := q + 50) t l9 rfl
  have t := rm_P_left t
  have r8 := rm_P_right (a := q + 44) t l8 rfl
  have t := rm_P_left t
  have r7 := rm_P_right (a := q + 38) t l7 rfl
  have t := rm_P_left t
  have r6 := rm_P_right (a := q + 32) t l6 rfl
  have t := rm_P_left t
  have r5 := rm_P_right (a := q + 26) t l5 rfl
  have t := rm_P_left t
  have r4 := rm_P_right (a := q + 20) t l4 rfl
  have t := rm_P_left t
  have r3 := rm_P_right (a := q + 14) t l3 rfl
  have t := rm_P_left t
  have r2 := rm_P_right (a := q + 8) t l2 rfl
  have t := rm_P_left t
  have r1 := rm_P_right (a := q + 2) t l1 rfl
  have t := rm_P_left t
  have r0 := t
  exact ⟨h0, r0, r1, r2, r3, r4, r5, r6, r7, r8, r9, r10, r11, r12⟩
theorem wo_cut_Lookahead {g : rb_G} {q : Nat} (h : rm_P g H q (rm_LLookahead g q)) : va_at (rb_D g) rb_cl (q, .inr (1, [.ref (q + 1), .ref (q + 7), .int 0, .int 0])) H ∧ rm_P g H (q + 1) (rm_LState g (q + 1)) ∧ rm_P g H (q + 7) (rm_LState g (q + 7)) := by
  have h0 := rm_P_head h
  have t := rm_P_tail h
  have l0 : ([] : List va_E).length = 0 := rfl
  have l1 : (rm_LState g (q + 1)).length = 6 := rfl
  have l2 := (rm_lenL (S := rm_LState g (q + 7)) l1 (show _ = 6 from rfl))
  have r1 := rm_P_right (a := q + 7) t l1 rfl
  have t := rm_P_left t
  have r0 := t
  exact ⟨h0, r0, r1⟩
end WO
