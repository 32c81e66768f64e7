theorem dw_0 : decode code 0 = .ok (.new 8, 3) := by decide +kernel
theorem dw_3 : decode code 3 = .ok (.dup, 1) := by decide +kernel
theorem dw_4 : decode code 4 = .ok (.invokespecial 26, 3) := by decide +kernel
theorem dw_7 : decode code 7 = .ok (.astore_n 1, 1) := by decide +kernel
theorem dw_8 : decode code 8 = .ok (.new 27, 3) := by decide +kernel
theorem dw_11 : decode code 11 = .ok (.dup, 1) := by decide +kernel
theorem dw_12 : decode code 12 = .ok (.invokespecial 29, 3) := by decide +kernel
theorem dw_15 : decode code 15 = .ok (.astore_n 2, 1) := by decide +kernel
theorem dw_16 : decode code 16 = .ok (.iconst 1, 1) := by decide +kernel
theorem dw_17 : decode code 17 = .ok (.newarray .long, 2) := by decide +kernel
theorem dw_19 : decode code 19 = .ok (.astore_n 3, 1) := by decide +kernel
theorem dw_20 : decode code 20 = .ok (.iconst 0, 1) := by decide +kernel
theorem dw_21 : decode code 21 = .ok (.istore 4, 2) := by decide +kernel
theorem dw_1611 : decode code 1611 = .ok (.iconst 1, 1) := by decide +kernel
theorem dw_1612 : decode code 1612 = .ok (.ireturn, 1) := by decide +kernel
theorem rm_len_RentBoard (g : rb_G) (q : Nat) : (rm_LRentBoard g q).length = 163 := by
  have l0 : ([] : List va_E).length = 0 := rfl
  have l1 := (rm_lenL (S := rm_LText g (q + 1)) l0 (show _ = 2 from rfl))
  have l2 := (rm_lenL (S := rm_LRow g (q + 3)) l1 (show _ = 2 from rfl))
  have l3 := (rm_lenL (S := rm_LRule g (q + 5)) l2 (show _ = 6 from rfl))
  have l4 := (rm_lenL (S := rm_LRule g (q + 11)) l3 (show _ = 6 from rfl))
  have l5 := (rm_lenL (S := rm_LState g (q + 17)) l4 (show _ = 6 from rfl))
  have l6 := (rm_lenL (S := rm_LState g (q + 23)) l5 (show _ = 6 from rfl))
  have l7 := (rm_lenL (S := rm_LState g (q + 29)) l6 (show _ = 6 from rfl))
  have l8 := (rm_lenL (S := rm_LPast g (q + 35)) l7 (show _ = 74 from rfl))
  have l9 := (rm_lenL (S := [rm_refs g 2 (va_up (va_up (fun _ => none) 0 (some (q + 110))) 1 (some (q + 116)))]) l8 (show _ = 1 from rfl))
  have l10 := (rm_lenL (S := (rm_LState g (q + 110) ++ rm_LState g (q + 116))) l9 (show _ = 12 from rfl))
  have l11 := (rm_lenL (S := [rm_i g 1 2]) l10 (show _ = 1 from rfl))
  have l12 := (rm_lenL (S := rm_LFacts g 12 (q + 123)) l11 (show _ = 3 from rfl))
  have l13 := (rm_lenL (S := rm_LFacts g 10 (q + 126)) l12 (show _ = 3 from rfl))
  have l14 := (rm_lenL (S := rm_LWalk g (q + 129)) l13 (show _ = 20 from rfl))
  have l15 := (rm_lenL (S := rm_LLookahead g (q + 149)) l14 (show _ = 13 from rfl))
  have l16 := (rm_lenL (S := [rm_i g 1 361]) l15 (show _ = 1 from rfl))
  exact congrArg Nat.succ l16
theorem rm_len_RentBoardModel (g : rb_G) (q : Nat) : (rm_LRentBoardModel g q).length = 44 := by
  have l0 : ([] : List va_E).length = 0 := rfl
  have l1 := (rm_lenL (S := [rm_i g 0 27]) l0 (show _ = 1 from rfl))
  have l2 := (rm_lenL (S := [rm_i g 0 8]) l1 (show _ = 1 from rfl))
  have l3 := (rm_lenL (S := [rm_i g 3 80]) l2 (show _ = 1 from rfl))
  have l4 := (rm_lenL (S := [rm_l g 16]) l3 (show _ = 1 from rfl))
  have l5 := (rm_lenL (S := [rm_i g 0 32]) l4 (show _ = 1 from rfl))
  have l6 := (rm_lenL (S := [rm_i g 3 40]) l5 (show _ = 1 from rfl))
  have l7 := (rm_lenL (S := [rm_i g 3 40]) l6 (show _ = 1 from rfl))
  have l8 := (rm_lenL (S := [rm_i g 0 7]) l7 (show _ = 1 from rfl))
  have l9 := (rm_lenL (S := [rm_i g 0 324]) l8 (show _ = 1 from rfl))
  have l10 := (rm_lenL (S := [rm_i g 0 27]) l9 (show _ = 1 from rfl))
  have l11 := (rm_lenL (S := [rm_i g 0 27]) l10 (show _ = 1 from rfl))
  have l12 := (rm_lenL (S := [rm_i g 0 8]) l11 (show _ = 1 from rfl))
  have l13 := (rm_lenL (S := [rm_i g 0 320]) l12 (show _ = 1 from rfl))
  have l14 := (rm_lenL (S := [rm_i g 0 25]) l13 (show _ = 1 from rfl))
  have l15 := (rm_lenL (S := [rm_i g 0 25]) l14 (show _ = 1 from rfl))
  have l16 := (rm_lenL (S := [rm_i g 0 25]) l15 (show _ = 1 from rfl))
  have l17 := (rm_lenL (S := rm_grid g (q + 17) 7 25) l16 (show _ = 8 from rfl))
  have l18 := (rm_lenL (S := rm_grid g (q + 25) 4 27) l17 (show _ = 5 from rfl))
  have l19 := (rm_lenL (S := rm_grid g (q + 30) 3 3) l18 (show _ = 4 from rfl))
  have l20 := (rm_lenL (S := [rm_i g 0 3]) l19 (show _ = 1 from rfl))
  have l21 := (rm_lenL (S := [rm_i g 0 12]) l20 (show _ = 1 from rfl))
  have l22 := (rm_lenL (S := [rm_i g 0 12]) l21 (show _ = 1 from rfl))
  have l23 := (rm_lenL (S := [rm_i g 0 10]) l22 (show _ = 1 from rfl))
  have l24 := (rm_lenL (S := [rm_i g 0 10]) l23 (show _ = 1 from rfl))
  have l25 := (rm_lenL (S := [rm_i g 0 21]) l24 (show _ = 1 from rfl))
  have l26 := (rm_lenL (S := [rm_i g 1 400]) l25 (show _ = 1 from rfl))
  have l27 := (rm_lenL (S := [rm_i g 0 54]) l26 (show _ = 1 from rfl))
  have l28 := (rm_lenL (S := [rm_i g 1 2]) l27 (show _ = 1 from rfl))
  have l29 := (rm_lenL (S := [rm_i g 0 2]) l28 (show _ = 1 from rfl))
  exact congrArg Nat.succ l29
section ENT
variable {X : rb_X} {g : rb_G} {B q o nL d mc ms cs ss pc idx : Nat} {Q : State → Prop} {cc : ByteArray} {L : List va_E} {lv : List (Nat × Value)} {st : List Value}
theorem rm_astore_n (C : rm_Cx X g B q o cc nL d mc ms) {j : Fin 4} {x : Nat} {lv' : List (Nat × Value)} (hdg : decode cc pc = .ok (.astore_n j, 1)) (hj : j.val < nL) (hlv : rb_ls1 j.val (.ref x) lv = lv') (k : rm_Ok X g q nL cs ss Q L (pc + 1) lv' st) : rm_Ok X g q nL cs ss Q L pc lv (.ref x :: st) := by
  obtain ⟨p, l, e', R, s, m, args, below, meth, c⟩ := X
  obtain ⟨hx, hb, -⟩ := C
  intro H locs ls hz hP hS hl
  exact lv_astore_n hx hb hdg rfl hl hj hlv (fun ls hl => k H locs ls hz hP hS hl)
theorem rm_istore (C : rm_Cx X g B q o cc nL d mc ms) {j : Nat} {x : Int32} {lv' : List (Nat × Value)} (hdg : decode cc pc = .ok (.istore j, 2)) (hj : j < nL) (hlv : rb_ls1 j (.int x) lv = lv') (k : rm_Ok X g q nL cs ss Q L (pc + 2) lv' st) : rm_Ok X g q nL cs ss Q L pc lv (.int x :: st) := by
  obtain ⟨p, l, e', R, s, m, args, below, meth, c⟩ := X
  obtain ⟨hx, hb, -⟩ := C
  intro H locs ls hz hP hS hl
  exact lv_istore hx hb hdg hl hj hlv (fun ls hl => k H locs ls hz hP hS hl)
end ENT
/-- the law's entry: the two constructors, the row of one long -/
theorem st_entry (HM : rm_Multi) {X : rb_X} {g : rb_G} {B b : Nat} {Q : State → Prop} (C : rm_Cx X g B B 14 code 8 5 208 4135) (k : rm_Ok X g B 8 208 4135 Q ((rm_LRentBoard g B ++ rm_LRentBoardModel g (B + 163)) ++ [rm_l g 1]) 23 [(4, .int 0), (3, .ref (B + 207)), (2, .ref (B + 163)), (1, .ref B), (0, .ref b)] []) : rm_Ok X g B 8 0 0 Q [] 0 [(0, .ref b)] [] := by
  have h1 : (rm_LRentBoard g B).length = 163 := rm_len_RentBoard g B
  have h2 : (rm_LRentBoard g B ++ rm_LRentBoardModel g (B + 163)).length = 207 := by rw [List.length_append, rm_len_RentBoard, rm_len_RentBoardModel]
  refine rm_new (L := []) C (ci := 8) (fs := [.null, .null, .null, .null, .null, .null, .null, .null, .null, .null, .null, .null, .null, .null, .null]) (by decide) dw_0 (rb_w1 24 rfl rfl) (rb_w1 25 rfl rfl) (rb_w1 1 rfl rfl) (by decide) (Nat.le_of_ble_eq_true rfl) (Nat.le_of_ble_eq_true rfl) ?_
  refine rm_dup C dw_3 ?_
  refine rm_call (L := []) (As := []) C (rm_mk_RentBoard HM X.2.1 g B) rfl dw_4 (Or.inl (rb_w1 26 rfl rfl)) (rb_w1 28 rfl rfl) (rb_w1 1 rfl rfl) (rb_w1 27 rfl rfl) ⟨by decide, by decide, by decide +kernel⟩ (by decide) (by decide) (Nat.le_of_ble_eq_true rfl) (Nat.le_of_ble_eq_true rfl) (Nat.le_of_ble_eq_true rfl) ?_
  show rm_Ok X g B 8 163 2225 Q (rm_LRentBoard g B) 7 [(0, .ref b)] [.ref B]
  refine rm_astore_n (j := 1) (lv' := [(1, .ref B), (0, .ref b)]) C dw_7 (by decide) rfl ?_
  refine rm_new (L := rm_LRentBoard g B) C (ci := 9) (fs := [.null, .null, .int 0, .null, .int 0, .null, .int 0, .int 0, .null, .int 0, .int 0, .int 0, .int 0, .null, .null, .null, .int 0, .int 0, .null, .null, .int 0, .null, .null, .null, .int 0, .null, .null, .null, .null, .null, .null, .null, .null, .null, .null, .int 0, .null, .null, .int 0, .null, .null, .int 0, .int 0, .null, .null, .null]) (by decide) dw_8 (rb_w5 165 rfl rfl) (rb_w5 166 rfl rfl) (rb_w1 11 rfl rfl) (by decide) (Nat.le_of_ble_eq_true rfl) (Nat.le_of_ble_eq_true rfl) ?_
  refine rm_dup C dw_11 ?_
  refine rm_call (L := rm_LRentBoard g B) (As := []) C (rm_mk_RentBoardModel HM X.2.1 g B) rfl dw_12 (Or.inl (rb_w5 167 rfl rfl)) (rb_w5 169 rfl rfl) (rb_w1 11 rfl rfl) (rb_w5 168 rfl rfl) ⟨by decide, by decide, by decide +kernel⟩ (by decide) (by decide) (Nat.le_of_ble_eq_true rfl) (Nat.le_of_ble_eq_true rfl) (Nat.le_of_ble_eq_true rfl) ?_
  rw [h1]
  show rm_Ok X g B 8 207 4134 Q (rm_LRentBoard g B ++ rm_LRentBoardModel g (B + 163)) 15 [(1, .ref B), (0, .ref b)] [.ref (B + 163)]
  refine rm_astore_n (j := 2) (lv' := [(2, .ref (B + 163)), (1, .ref B), (0, .ref b)]) C dw_15 (by decide) rfl ?_
  refine rm_iconst C dw_16 rfl ?_
  refine rm_newa (L := rm_LRentBoard g B ++ rm_LRentBoardModel g (B + 163)) (cs := 207) (ss := 4134) (n := 1) C (atype := .long) (t := 4) (N := 1) (a0 := (1, .inr (.inl fun _ => 0))) dw_17 (rb_w1 63 rfl rfl) rfl (fun _ => rfl) (by decide) rfl (Nat.le_of_ble_eq_true rfl) (Nat.le_of_ble_eq_true rfl) (Nat.le_of_ble_eq_true rfl) ?_
  rw [h2]
  refine rm_astore_n (j := 3) (lv' := [(3, .ref (B + 207)), (2, .ref (B + 163)), (1, .ref B), (0, .ref b)]) C dw_19 (by decide) rfl ?_
  refine rm_iconst C dw_20 rfl ?_
  refine rm_istore (j := 4) (lv' := [(4, .int 0), (3, .ref (B + 207)), (2, .ref (B + 163)), (1, .ref B), (0, .ref b)]) C dw_21 (by decide) rfl ?_
  exact k
/-- the law's end -/
theorem st_end {p : Program} {l : Launch} {e : Env} {s : State} {m : MethodId} {below : List Frame} {meth : Method} {c : Code} {b : Nat} {g : rb_G} (hx : p.tables.exec = Jvm.exec) (hb : c.code = code) (hr : meth.sig.returnType = ret) (hlocks : meth.locks = false) : ∀ (h : rb_H) (i cs ss : Nat), cs ≤ 5000 → ss ≤ 70000 → rc_Ok (p, l, e, room_1, s, m, #[Value.ref b], below, meth, c) g 8 cs ss (lw_Z below #[Value.ref b] s) h 1611 (lwv i) [] := by
  intro h i cs ss hcs hss H locs ls hP hS hl
  refine lv_iconst (v := 1) hx hb dw_1611 (by decide) ?_
  refine va_forget (fun q hq => hS.2.2 q hq) ?_
  refine W.widen (k := 601024) (n := 7293034) (Nat.le_trans hcs (Nat.le_of_ble_eq_true rfl)) (Nat.le_trans hss (Nat.le_of_ble_eq_true rfl)) ?_
  exact lw_ret hx hb hr hlocks dw_1612
theorem st_whole (HM : rm_Multi) {p : Program} {e : Env} {s : State} {m : MethodId} {below : List Frame} {meth : Method} {c : Code} (l : Launch) (hflags : l.flags = flags0) {b L : Nat} {xs : Nat → Int32} (hL : L ≤ 2560) (C0 : lw_At p s m meth c b L xs) : W p l e room_1 s m #[Value.ref b] below meth c s.heap [] 0 0 (lw_Z below #[Value.ref b] s) (entryFrame m ([Value.ref b] : List Value).toArray 8) := by
  obtain ⟨hx, hb, hr, hml, hown, hts, hX, hbl, hlocks, hgv⟩ := id C0
  have hg : ∀ w ∈ rb_tbl, w.before #[Value.ref b] s = true := fun w h => hts w (List.mem_filter.mp h).1
  obtain ⟨D, tc, as, so, h300, hC, hSc, hZ⟩ := st_all C0
  have hl := lv_entry ([.ref b]) (n := 8) (Nat.le_of_ble_eq_true rfl)
  rw [lg_entry_eq]
  have CX : rm_Cx (p, l, e, room_1, s, m, #[Value.ref b], below, meth, c) (wo_g D tc s.heap.size as so L xs) s.heap.size s.heap.size 14 code 8 5 208 4135 := ⟨hx, hb, hml, hown, hg, ⟨Nat.le_of_ble_eq_true rfl, Nat.le_of_ble_eq_true rfl, Nat.le_of_ble_eq_true rfl, Nat.le_of_ble_eq_true rfl⟩, hC, Nat.le_refl _⟩
  refine st_entry (b := b) HM CX (fun H locs ls hz hP hS hl => ?_) s.heap [] _ rfl (rm_P_of fun j e h => absurd (List.getElem?_eq_some_iff.mp h).1 (Nat.not_lt_zero _)) va_S.rf hl
  have hst : (p, l, e, room_1, s, m, #[Value.ref b], below, meth, c).2.1.stackTraces = false := by
    show (!l.flags.contains noTraceFlag) = false
    rw [hflags]
    decide +kernel
  have CC : ∀ cs ss, cs ≤ 5000 → ss ≤ 70000 → lcx (p, l, e, room_1, s, m, #[Value.ref b], below, meth, c) (wo_g D tc s.heap.size as so L xs) cs ss := fun cs ss h1 h2 => ⟨hx, hb, hml, hr, hown, hg, hlocks, ⟨Nat.le_of_ble_eq_true rfl, Nat.le_of_ble_eq_true rfl, Nat.le_trans h1 (Nat.le_of_ble_eq_true rfl), Nat.le_trans h2 (Nat.le_of_ble_eq_true rfl)⟩, hSc, (fun q h => by
      obtain ⟨i, -, e⟩ := h
      show s.heap.size ≤ q
      rw [e]
      exact Nat.le_add_right _ _), fun q h1 h2 => absurd h1 (Nat.not_lt.mpr h2)⟩
  have hP2 := wo_all (rm_P_left (rm_P_left hP)) (rm_P_right (n := 163) (rm_P_left hP) (rm_len_RentBoard _ _) rfl) (rm_P_head (rm_P_right (n := 207) hP (by rw [List.length_append, rm_len_RentBoard, rm_len_RentBoardModel]) rfl))
  have loop := lw_loop (Q := lw_Z below #[Value.ref b] s) (lg_piece hst hZ hL CC) (lg_square hst hZ hL CC) (lg_rent hst hZ hL CC) (lg_row hst hZ hL CC) hL CC (st_end hx hb hr hlocks) L 0 wo_h wo_s (by show L ≤ _; omega) (Nat.zero_le _) wo_WS wo_IC wo_IM
  refine W.widen (k := 1000) (n := 30000) (Nat.le_of_ble_eq_true rfl) (Nat.le_of_ble_eq_true rfl) (loop H locs ls hP2 hS ?_)
  have a0 : wo_pl 0 = 0 := by decide +kernel
  have a1 : wo_pl 49 = 163 := by decide +kernel
  have a2 : wo_pl 93 = 207 := by decide +kernel
  show lv_has ls 8 [(0, .ref (as 300)), (1, .ref (s.heap.size + wo_pl 0)), (2, .ref (s.heap.size + wo_pl 49)), (3, .ref (s.heap.size + wo_pl 93)), (4, .int (nI 0))]
  rw [h300, a0, a1, a2]
  exact lv_sub hl [4, 3, 2, 1, 0] rfl
