/-! the ways of piece, square, rent and row that throw; the methods of the law that catch -/
def tb_piece0 : List rb_I := [(.aload_n 0, 1, 0, 0, .null), (.getfield 36, 3, 8, 4, .null), (.iload_n 1, 1, 0, 0, .null), (.invokevirtual 166, 3, 53, 1, .null), (.ifCond .ne 13, 3, 21, 0, .null)]
theorem ctb_piece0 : rb_kb 8 prog_1_method_8_code 3 0 tb_piece0 = true := by decide +kernel
def tb_piece21 : List rb_I := [(.iload_n 2, 1, 0, 0, .null), (.tableswitch 87 0 4 #[34, 44, 54, 64, 74], 34, 0, 0, .null)]
theorem ctb_piece21 : rb_kb 8 prog_1_method_8_code 3 21 tb_piece21 = true := by decide +kernel
def tb_square0 : List rb_I := [(.iload_n 1, 1, 0, 0, .null), (.invokestatic 195, 3, 59, 1, .null), (.ifCond .ne 13, 3, 17, 0, .null)]
theorem ctb_square0 : rb_kb 8 prog_1_method_9_code 2 0 tb_square0 = true := by decide +kernel
def tb_rent0 : List rb_I := [(.aload_n 0, 1, 0, 0, .null), (.getfield 36, 3, 8, 4, .null), (.iload_n 1, 1, 0, 0, .null), (.invokevirtual 200, 3, 52, 1, .null), (.ifCond .eq 10, 3, 18, 0, .null)]
theorem ctb_rent0 : rb_kb 8 prog_1_method_10_code 3 0 tb_rent0 = true := by decide +kernel
def tb_rent11 : List rb_I := [(.iload_n 2, 1, 0, 0, .null), (.invokestatic 195, 3, 59, 1, .null), (.ifCond .ne 13, 3, 28, 0, .null)]
theorem ctb_rent11 : rb_kb 8 prog_1_method_10_code 3 11 tb_rent11 = true := by decide +kernel
def tb_row0 : List rb_I := [(.iload_n 1, 1, 0, 0, .null), (.ifCond .lt 20, 3, 21, 0, .null)]
theorem ctb_row0 : rb_kb 8 prog_1_method_71_code 2 0 tb_row0 = true := by decide +kernel
def tb_row4 : List rb_I := [(.iload_n 1, 1, 0, 0, .null), (.aload_n 0, 1, 0, 0, .null), (.getfield 19, 3, 8, 1, .null), (.getfield 313, 3, 3, 1, .null), (.if_icmp .ge 9, 3, 21, 0, .null)]
theorem ctb_row4 : rb_kb 8 prog_1_method_71_code 2 4 tb_row4 = true := by decide +kernel
def tb_row15 : List rb_I := [(.iload_n 1, 1, 0, 0, .null), (.bipush 25, 2, 0, 0, .int 25), (.if_icmp .lt 14, 3, 32, 0, .null)]
theorem ctb_row15 : rb_kb 8 prog_1_method_71_code 2 15 tb_row15 = true := by decide +kernel
theorem tx_piece {l : Launch} {g : rb_G} {h : rb_H} {x y : Int32} (hl : l.stackTraces = false) (T : fS_has 94 x h = false ∨ (fS_has 94 x h = true ∧ ∀ k, k < 5 → y ≠ nI k)) : rx_T l g (rb_mt 155) 8 [.ref 0, .int x, .int y] h := by
  refine rx_T_of (o := 8) (Nat.le_of_ble_eq_true rfl) rfl (Nat.le_of_ble_eq_true rfl) (fun X hX C hZ hno => ?_)
  subst hX
  have C0 := rq_less C (Nat.zero_le 1) (Nat.zero_le 6)
  have hs : rb_sO 94 := rb_sO_of rfl
  rcases T with T | ⟨T, hy⟩
  · exact rc_sound C0 tb_piece0 0 _ _ _ ctb_piece0 (And.intro rfl (And.intro rfl (Exists.intro 0 (Exists.intro _ (Exists.intro _ (And.intro (And.intro (Nat.le_of_ble_eq_true rfl) (And.intro (Nat.le_of_ble_eq_true rfl) (Nat.le_of_ble_eq_true rfl))) (And.intro (M_fS_has X.2.1 g hs T) (And.intro (fun z => absurd rfl z) (fun _ => (rx_throw C hl hZ hno (by decide) (i := 9) (by decide) rfl rfl (Nat.le_of_ble_eq_true rfl) (by decide +kernel) (by decide +kernel) (by decide +kernel) (by decide +kernel) (by decide +kernel)))))))))))
  · have sw : rc_wp X.2.1 g 8 (rq_Ok X g (rb_A g) 3 0 0 (rx_Q X g h)) tb_piece21 21 [(0, .ref 0), (1, .int x), (2, .int y)] [] h :=
      (And.intro (fun e => absurd e (hy 0 (by decide))) (fun _ => And.intro (fun e => absurd e (hy 1 (by decide))) (fun _ => And.intro (fun e => absurd e (hy 2 (by decide))) (fun _ => And.intro (fun e => absurd e (hy 3 (by decide))) (fun _ => And.intro (fun e => absurd e (hy 4 (by decide))) (fun _ => (rx_throw C hl hZ hno (by decide) (i := 10) (by decide) rfl rfl (Nat.le_of_ble_eq_true rfl) (by decide +kernel) (by decide +kernel) (by decide +kernel) (by decide +kernel) (by decide +kernel))))))))
    exact rc_sound C0 tb_piece0 0 _ _ _ ctb_piece0 (And.intro rfl (And.intro rfl (Exists.intro 0 (Exists.intro _ (Exists.intro _ (And.intro (And.intro (Nat.le_of_ble_eq_true rfl) (And.intro (Nat.le_of_ble_eq_true rfl) (Nat.le_of_ble_eq_true rfl))) (And.intro (M_fS_has X.2.1 g hs T) (And.intro (fun _ => rc_sound C0 tb_piece21 21 _ _ _ ctb_piece21 sw) (fun z => absurd (show rb_b2i true ≠ 0 by decide) z)))))))))
theorem tx_square {l : Launch} {g : rb_G} {h : rb_H} {x : Int32} (hl : l.stackTraces = false) (T : fB_isSquare x = false) : rx_T l g (rb_mt 156) 8 [.ref 0, .int x] h := by
  refine rx_T_of (o := 8) (Nat.le_of_ble_eq_true rfl) rfl (Nat.le_of_ble_eq_true rfl) (fun X hX C hZ hno => ?_)
  subst hX
  have C0 := rq_less C (Nat.zero_le 1) (Nat.zero_le 6)
  exact rc_sound C0 tb_square0 0 _ _ _ ctb_square0 (And.intro (Nat.le_of_ble_eq_true rfl) (Exists.intro 0 (Exists.intro _ (Exists.intro _ (And.intro (And.intro (Nat.le_of_ble_eq_true rfl) (And.intro (Nat.le_of_ble_eq_true rfl) (Nat.le_of_ble_eq_true rfl))) (And.intro (M_fB_isSquare X.2.1 g T) (And.intro (fun z => absurd rfl z) (fun _ => (rx_throw C hl hZ hno (by decide) (i := 11) (by decide) rfl rfl (Nat.le_of_ble_eq_true rfl) (by decide +kernel) (by decide +kernel) (by decide +kernel) (by decide +kernel) (by decide +kernel))))))))))
theorem tx_rent {l : Launch} {g : rb_G} {h : rb_H} {x y : Int32} (hl : l.stackTraces = false) (T : fS_stands 94 x h = some false ∨ (fS_stands 94 x h = some true ∧ fB_isSquare y = false)) : rx_T l g (rb_mt 157) 8 [.ref 0, .int x, .int y] h := by
  refine rx_T_of (o := 8) (Nat.le_of_ble_eq_true rfl) rfl (Nat.le_of_ble_eq_true rfl) (fun X hX C hZ hno => ?_)
  subst hX
  have C0 := rq_less C (Nat.zero_le 1) (Nat.zero_le 6)
  have hs : rb_sO 94 := rb_sO_of rfl
  rcases T with T | ⟨T, T2⟩
  · exact rc_sound C0 tb_rent0 0 _ _ _ ctb_rent0 (And.intro rfl (And.intro rfl (Exists.intro 1 (Exists.intro _ (Exists.intro _ (And.intro (And.intro (Nat.le_of_ble_eq_true rfl) (And.intro (Nat.le_of_ble_eq_true rfl) (Nat.le_of_ble_eq_true rfl))) (And.intro (M_fS_stands X.2.1 g hs T) (And.intro (fun _ => (rx_throw C hl hZ hno (by decide) (i := 12) (by decide) rfl rfl (Nat.le_of_ble_eq_true rfl) (by decide +kernel) (by decide +kernel) (by decide +kernel) (by decide +kernel) (by decide +kernel))) (fun z => absurd rfl z)))))))))
  · have k11 : rq_Ok X g (rb_A g) 3 0 0 (rx_Q X g h) h 11 [(0, .ref 0), (1, .int x), (2, .int y)] [] := rc_sound C0 tb_rent11 11 _ _ _ ctb_rent11 (And.intro (Nat.le_of_ble_eq_true rfl) (Exists.intro 0 (Exists.intro _ (Exists.intro _ (And.intro (And.intro (Nat.le_of_ble_eq_true rfl) (And.intro (Nat.le_of_ble_eq_true rfl) (Nat.le_of_ble_eq_true rfl))) (And.intro (M_fB_isSquare X.2.1 g T2) (And.intro (fun z => absurd rfl z) (fun _ => (rx_throw C hl hZ hno (by decide) (i := 12) (by decide) rfl rfl (Nat.le_of_ble_eq_true rfl) (by decide +kernel) (by decide +kernel) (by decide +kernel) (by decide +kernel) (by decide +kernel))))))))))
    exact rc_sound C0 tb_rent0 0 _ _ _ ctb_rent0 (And.intro rfl (And.intro rfl (Exists.intro 1 (Exists.intro _ (Exists.intro _ (And.intro (And.intro (Nat.le_of_ble_eq_true rfl) (And.intro (Nat.le_of_ble_eq_true rfl) (Nat.le_of_ble_eq_true rfl))) (And.intro (M_fS_stands X.2.1 g hs T) (And.intro (fun z => absurd z (show ¬ rb_b2i true = 0 by decide)) (fun _ => k11))))))))) 
theorem tx_row {l : Launch} {g : rb_G} {h : rb_H} {x : Int32} (hl : l.stackTraces = false) (T : x < 0 ∨ (¬ x < 0 ∧ rb_hF h 3 1 ≤ x)) : rx_T l g (rb_mt 158) 8 [.ref 0, .int x] h := by
  refine rx_T_of (o := 8) (Nat.le_of_ble_eq_true rfl) rfl (Nat.le_of_ble_eq_true rfl) (fun X hX C hZ hno => ?_)
  subst hX
  have C0 := rq_less C (Nat.zero_le 1) (Nat.zero_le 6)
  have k21 : rq_Ok X g (rb_A g) 2 0 0 (rx_Q X g h) h 21 [(0, .ref 0), (1, .int x)] [] := (rx_throwW C hl hZ hno (by decide) (i := 13) (by decide) rfl rfl (Nat.le_of_ble_eq_true rfl) (by decide +kernel) (by decide +kernel) (by decide +kernel) (by decide +kernel) (by decide +kernel))
  rcases T with T | ⟨T, T2⟩
  · exact rc_sound C0 tb_row0 0 _ _ _ ctb_row0 (And.intro (fun _ => k21) (fun z => absurd T z))
  · have k4 : rq_Ok X g (rb_A g) 2 0 0 (rx_Q X g h) h 4 [(0, .ref 0), (1, .int x)] [] := rc_sound C0 tb_row4 4 _ _ _ ctb_row4 (And.intro rfl (And.intro rfl (And.intro (fun _ => k21) (fun z => absurd T2 z))))
    exact rc_sound C0 tb_row0 0 _ _ _ ctb_row0 (And.intro (fun z => absurd z T) (fun _ => k4))
theorem ob93 : ¬ rb_oob (0 : Int32) (rb_len 93) := by decide +kernel
def hb_piece : List rb_I := [(.aload_n 3, 1, 0, 0, .null), (.iconst 0, 1, 0, 0, .int 0), (.aload_n 0, 1, 0, 0, .null), (.iload_n 1, 1, 0, 0, .null), (.iload_n 2, 1, 0, 0, .null), (.invokevirtual 7, 3, 165, 2, .null), (.i2l, 1, 0, 0, .null), (.lastore, 1, 0, 0, .null), (.goto 7, 3, 17, 0, .null)]
theorem chb_piece : rb_kb 14 method_3_code 5 0 hb_piece = true := by decide +kernel
def hb_piecea : List rb_I := [(.aload_n 3, 1, 0, 0, .null), (.iconst 0, 1, 0, 0, .int 0), (.aload_n 0, 1, 0, 0, .null), (.iload_n 1, 1, 0, 0, .null), (.iload_n 2, 1, 0, 0, .null)]
theorem chb_piecea : rb_kb 14 method_3_code 5 0 hb_piecea = true := by decide +kernel
def hb_piecef : List rb_I := [(.iconst 0, 1, 0, 0, .int 0)]
theorem chb_piecef : rb_kb 14 method_3_code 5 17 hb_piecef = true := by decide +kernel
def hb_pieceh : List rb_I := [(.iconst 1, 1, 0, 0, .int 1)]
theorem chb_pieceh : rb_kb 14 method_3_code 5 15 hb_pieceh = true := by decide +kernel
theorem hr_piece {l : Launch} {g : rb_G} {h h' : rb_H} {x y : Int32} {r : Int32} (hM : rb_Mt l g (rb_mt 155) 5 [.ref 0, .int x, .int y] h (some (.int r), h')) : rx_He l g ⟨"RentBoardLaw", "piece", "(LRentBoard;II[J)I"⟩ method_3_code 5 [(0, 10, 13, 13)] 10 [.ref 0, .int x, .int y, .ref 93] h (some (.int 0), rb_sJ h' 93 0 r.toInt64) := by
  refine rx_He_of (by decide +kernel) rfl (Nat.le_of_ble_eq_true rfl) (fun X hX C hZ hht => ?_)
  subst hX
  have C0 := rq_less C (Nat.zero_le 1) (Nat.zero_le 6)
  exact rc_sound C0 hb_piece 0 _ _ _ chb_piece (And.intro rfl (Exists.intro 5 (Exists.intro _ (Exists.intro _ (And.intro (And.intro (Nat.le_of_ble_eq_true rfl) (And.intro (Nat.le_of_ble_eq_true rfl) (Nat.le_of_ble_eq_true rfl))) (And.intro hM (And.intro (And.intro rfl ob93) (rc_sound C0 hb_piecef 17 _ _ _ chb_piecef (rx_iret C (Nat.zero_le 1) (Nat.zero_le 6) (by decide +kernel) ⟨.int, rfl, rfl⟩ rfl)))))))))
theorem ht_piece {l : Launch} {g : rb_G} {h : rb_H} {x y : Int32} (hM : rx_T l g (rb_mt 155) 8 [.ref 0, .int x, .int y] h) : rx_He l g ⟨"RentBoardLaw", "piece", "(LRentBoard;II[J)I"⟩ method_3_code 5 [(0, 10, 13, 13)] 10 [.ref 0, .int x, .int y, .ref 93] h (some (.int 1), h) := by
  refine rx_He_of (by decide +kernel) rfl (Nat.le_of_ble_eq_true rfl) (fun X hX C hZ hht => ?_)
  subst hX
  have C0 := rq_less C (Nat.zero_le 1) (Nat.zero_le 6)
  exact rc_sound C0 hb_piecea 0 _ _ _ chb_piecea (rx_callX C hZ (idx := 7) (b := 2) (by decide +kernel) (rb_ml_ok (o := 14) (idx := 7) (q := (0, 165)) rfl) (Nat.le_of_ble_eq_true rfl) rfl (q := 0) (rest := [.int 0, .ref 93]) rfl rfl (by decide) (d' := 8) (And.intro (Nat.le_of_ble_eq_true rfl) (And.intro (Nat.le_of_ble_eq_true rfl) (Nat.le_of_ble_eq_true rfl))) hM ⟨0, 10, 13, 13⟩ hht rfl rfl (rx_put C (j := 4) (by decide) (by decide +kernel) (rc_sound C hb_pieceh 15 _ _ _ chb_pieceh (rx_iret C (Nat.le_refl 1) (Nat.le_refl 6) (by decide +kernel) ⟨.int, rfl, rfl⟩ rfl))))
def hb_square : List rb_I := [(.aload_n 2, 1, 0, 0, .null), (.iconst 0, 1, 0, 0, .int 0), (.aload_n 0, 1, 0, 0, .null), (.iload_n 1, 1, 0, 0, .null), (.invokevirtual 15, 3, 166, 1, .null), (.i2l, 1, 0, 0, .null), (.lastore, 1, 0, 0, .null), (.goto 6, 3, 15, 0, .null)]
theorem chb_square : rb_kb 14 method_4_code 4 0 hb_square = true := by decide +kernel
def hb_squarea : List rb_I := [(.aload_n 2, 1, 0, 0, .null), (.iconst 0, 1, 0, 0, .int 0), (.aload_n 0, 1, 0, 0, .null), (.iload_n 1, 1, 0, 0, .null)]
theorem chb_squarea : rb_kb 14 method_4_code 4 0 hb_squarea = true := by decide +kernel
def hb_squaref : List rb_I := [(.iconst 0, 1, 0, 0, .int 0)]
theorem chb_squaref : rb_kb 14 method_4_code 4 15 hb_squaref = true := by decide +kernel
def hb_squareh : List rb_I := [(.iconst 1, 1, 0, 0, .int 1)]
theorem chb_squareh : rb_kb 14 method_4_code 4 13 hb_squareh = true := by decide +kernel
theorem hr_square {l : Launch} {g : rb_G} {h h' : rb_H} {x : Int32} {r : Int32} (hM : rb_Mt l g (rb_mt 156) 1 [.ref 0, .int x] h (some (.int r), h')) : rx_He l g ⟨"RentBoardLaw", "square", "(LRentBoard;I[J)I"⟩ method_4_code 4 [(0, 9, 12, 13)] 10 [.ref 0, .int x, .ref 93] h (some (.int 0), rb_sJ h' 93 0 r.toInt64) := by
  refine rx_He_of (by decide +kernel) rfl (Nat.le_of_ble_eq_true rfl) (fun X hX C hZ hht => ?_)
  subst hX
  have C0 := rq_less C (Nat.zero_le 1) (Nat.zero_le 6)
  exact rc_sound C0 hb_square 0 _ _ _ chb_square (And.intro rfl (Exists.intro 1 (Exists.intro _ (Exists.intro _ (And.intro (And.intro (Nat.le_of_ble_eq_true rfl) (And.intro (Nat.le_of_ble_eq_true rfl) (Nat.le_of_ble_eq_true rfl))) (And.intro hM (And.intro (And.intro rfl ob93) (rc_sound C0 hb_squaref 15 _ _ _ chb_squaref (rx_iret C (Nat.zero_le 1) (Nat.zero_le 6) (by decide +kernel) ⟨.int, rfl, rfl⟩ rfl)))))))))
theorem ht_square {l : Launch} {g : rb_G} {h : rb_H} {x : Int32} (hM : rx_T l g (rb_mt 156) 8 [.ref 0, .int x] h) : rx_He l g ⟨"RentBoardLaw", "square", "(LRentBoard;I[J)I"⟩ method_4_code 4 [(0, 9, 12, 13)] 10 [.ref 0, .int x, .ref 93] h (some (.int 1), h) := by
  refine rx_He_of (by decide +kernel) rfl (Nat.le_of_ble_eq_true rfl) (fun X hX C hZ hht => ?_)
  subst hX
  have C0 := rq_less C (Nat.zero_le 1) (Nat.zero_le 6)
  exact rc_sound C0 hb_squarea 0 _ _ _ chb_squarea (rx_callX C hZ (idx := 15) (b := 1) (by decide +kernel) (rb_ml_ok (o := 14) (idx := 15) (q := (0, 166)) rfl) (Nat.le_of_ble_eq_true rfl) rfl (q := 0) (rest := [.int 0, .ref 93]) rfl rfl (by decide) (d' := 8) (And.intro (Nat.le_of_ble_eq_true rfl) (And.intro (Nat.le_of_ble_eq_true rfl) (Nat.le_of_ble_eq_true rfl))) hM ⟨0, 9, 12, 13⟩ hht rfl rfl (rx_putn C (j := 3) (by decide) (by decide +kernel) (rc_sound C hb_squareh 13 _ _ _ chb_squareh (rx_iret C (Nat.le_refl 1) (Nat.le_refl 6) (by decide +kernel) ⟨.int, rfl, rfl⟩ rfl))))
def hb_rent : List rb_I := [(.aload_n 3, 1, 0, 0, .null), (.iconst 0, 1, 0, 0, .int 0), (.aload_n 0, 1, 0, 0, .null), (.iload_n 1, 1, 0, 0, .null), (.iload_n 2, 1, 0, 0, .null), (.invokevirtual 19, 3, 167, 2, .null), (.i2l, 1, 0, 0, .null), (.lastore, 1, 0, 0, .null), (.goto 7, 3, 17, 0, .null)]
theorem chb_rent : rb_kb 14 method_5_code 5 0 hb_rent = true := by decide +kernel
def hb_renta : List rb_I := [(.aload_n 3, 1, 0, 0, .null), (.iconst 0, 1, 0, 0, .int 0), (.aload_n 0, 1, 0, 0, .null), (.iload_n 1, 1, 0, 0, .null), (.iload_n 2, 1, 0, 0, .null)]
theorem chb_renta : rb_kb 14 method_5_code 5 0 hb_renta = true := by decide +kernel
def hb_rentf : List rb_I := [(.iconst 0, 1, 0, 0, .int 0)]
theorem chb_rentf : rb_kb 14 method_5_code 5 17 hb_rentf = true := by decide +kernel
def hb_renth : List rb_I := [(.iconst 1, 1, 0, 0, .int 1)]
theorem chb_renth : rb_kb 14 method_5_code 5 15 hb_renth = true := by decide +kernel
theorem hr_rent {l : Launch} {g : rb_G} {h h' : rb_H} {x y : Int32} {r : Int32} (hM : rb_Mt l g (rb_mt 157) 4 [.ref 0, .int x, .int y] h (some (.int r), h')) : rx_He l g ⟨"RentBoardLaw", "rent", "(LRentBoard;II[J)I"⟩ method_5_code 5 [(0, 10, 13, 13)] 10 [.ref 0, .int x, .int y, .ref 93] h (some (.int 0), rb_sJ h' 93 0 r.toInt64) := by
  refine rx_He_of (by decide +kernel) rfl (Nat.le_of_ble_eq_true rfl) (fun X hX C hZ hht => ?_)
  subst hX
  have C0 := rq_less C (Nat.zero_le 1) (Nat.zero_le 6)
  exact rc_sound C0 hb_rent 0 _ _ _ chb_rent (And.intro rfl (Exists.intro 4 (Exists.intro _ (Exists.intro _ (And.intro (And.intro (Nat.le_of_ble_eq_true rfl) (And.intro (Nat.le_of_ble_eq_true rfl) (Nat.le_of_ble_eq_true rfl))) (And.intro hM (And.intro (And.intro rfl ob93) (rc_sound C0 hb_rentf 17 _ _ _ chb_rentf (rx_iret C (Nat.zero_le 1) (Nat.zero_le 6) (by decide +kernel) ⟨.int, rfl, rfl⟩ rfl)))))))))
theorem ht_rent {l : Launch} {g : rb_G} {h : rb_H} {x y : Int32} (hM : rx_T l g (rb_mt 157) 8 [.ref 0, .int x, .int y] h) : rx_He l g ⟨"RentBoardLaw", "rent", "(LRentBoard;II[J)I"⟩ method_5_code 5 [(0, 10, 13, 13)] 10 [.ref 0, .int x, .int y, .ref 93] h (some (.int 1), h) := by
  refine rx_He_of (by decide +kernel) rfl (Nat.le_of_ble_eq_true rfl) (fun X hX C hZ hht => ?_)
  subst hX
  have C0 := rq_less C (Nat.zero_le 1) (Nat.zero_le 6)
  exact rc_sound C0 hb_renta 0 _ _ _ chb_renta (rx_callX C hZ (idx := 19) (b := 2) (by decide +kernel) (rb_ml_ok (o := 14) (idx := 19) (q := (0, 167)) rfl) (Nat.le_of_ble_eq_true rfl) rfl (q := 0) (rest := [.int 0, .ref 93]) rfl rfl (by decide) (d' := 8) (And.intro (Nat.le_of_ble_eq_true rfl) (And.intro (Nat.le_of_ble_eq_true rfl) (Nat.le_of_ble_eq_true rfl))) hM ⟨0, 10, 13, 13⟩ hht rfl rfl (rx_put C (j := 4) (by decide) (by decide +kernel) (rc_sound C hb_renth 15 _ _ _ chb_renth (rx_iret C (Nat.le_refl 1) (Nat.le_refl 6) (by decide +kernel) ⟨.int, rfl, rfl⟩ rfl))))
def hb_row : List rb_I := [(.aload_n 2, 1, 0, 0, .null), (.iconst 0, 1, 0, 0, .int 0), (.aload_n 0, 1, 0, 0, .null), (.iload_n 1, 1, 0, 0, .null), (.invokevirtual 22, 3, 168, 1, .null), (.lastore, 1, 0, 0, .null), (.goto 6, 3, 14, 0, .null)]
theorem chb_row : rb_kb 14 method_6_code 4 0 hb_row = true := by decide +kernel
def hb_rowa : List rb_I := [(.aload_n 2, 1, 0, 0, .null), (.iconst 0, 1, 0, 0, .int 0), (.aload_n 0, 1, 0, 0, .null), (.iload_n 1, 1, 0, 0, .null)]
theorem chb_rowa : rb_kb 14 method_6_code 4 0 hb_rowa = true := by decide +kernel
def hb_rowf : List rb_I := [(.iconst 0, 1, 0, 0, .int 0)]
theorem chb_rowf : rb_kb 14 method_6_code 4 14 hb_rowf = true := by decide +kernel
def hb_rowh : List rb_I := [(.iconst 1, 1, 0, 0, .int 1)]
theorem chb_rowh : rb_kb 14 method_6_code 4 12 hb_rowh = true := by decide +kernel
theorem hr_row {l : Launch} {g : rb_G} {h h' : rb_H} {x : Int32} {r : Int64} (hM : rb_Mt l g (rb_mt 158) 0 [.ref 0, .int x] h (some (.long r), h')) : rx_He l g ⟨"RentBoardLaw", "row", "(LRentBoard;I[J)I"⟩ method_6_code 4 [(0, 8, 11, 13)] 10 [.ref 0, .int x, .ref 93] h (some (.int 0), rb_sJ h' 93 0 r) := by
  refine rx_He_of (by decide +kernel) rfl (Nat.le_of_ble_eq_true rfl) (fun X hX C hZ hht => ?_)
  subst hX
  have C0 := rq_less C (Nat.zero_le 1) (Nat.zero_le 6)
  exact rc_sound C0 hb_row 0 _ _ _ chb_row (And.intro rfl (Exists.intro 0 (Exists.intro _ (Exists.intro _ (And.intro (And.intro (Nat.le_of_ble_eq_true rfl) (And.intro (Nat.le_of_ble_eq_true rfl) (Nat.le_of_ble_eq_true rfl))) (And.intro hM (And.intro (And.intro rfl ob93) (rc_sound C0 hb_rowf 14 _ _ _ chb_rowf (rx_iret C (Nat.zero_le 1) (Nat.zero_le 6) (by decide +kernel) ⟨.int, rfl, rfl⟩ rfl)))))))))
theorem ht_row {l : Launch} {g : rb_G} {h : rb_H} {x : Int32} (hM : rx_T l g (rb_mt 158) 8 [.ref 0, .int x] h) : rx_He l g ⟨"RentBoardLaw", "row", "(LRentBoard;I[J)I"⟩ method_6_code 4 [(0, 8, 11, 13)] 10 [.ref 0, .int x, .ref 93] h (some (.int 1), h) := by
  refine rx_He_of (by decide +kernel) rfl (Nat.le_of_ble_eq_true rfl) (fun X hX C hZ hht => ?_)
  subst hX
  have C0 := rq_less C (Nat.zero_le 1) (Nat.zero_le 6)
  exact rc_sound C0 hb_rowa 0 _ _ _ chb_rowa (rx_callX C hZ (idx := 22) (b := 1) (by decide +kernel) (rb_ml_ok (o := 14) (idx := 22) (q := (0, 168)) rfl) (Nat.le_of_ble_eq_true rfl) rfl (q := 0) (rest := [.int 0, .ref 93]) rfl rfl (by decide) (d' := 8) (And.intro (Nat.le_of_ble_eq_true rfl) (And.intro (Nat.le_of_ble_eq_true rfl) (Nat.le_of_ble_eq_true rfl))) hM ⟨0, 8, 11, 13⟩ hht rfl rfl (rx_putn C (j := 3) (by decide) (by decide +kernel) (rc_sound C hb_rowh 12 _ _ _ chb_rowh (rx_iret C (Nat.le_refl 1) (Nat.le_refl 6) (by decide +kernel) ⟨.int, rfl, rfl⟩ rfl))))
