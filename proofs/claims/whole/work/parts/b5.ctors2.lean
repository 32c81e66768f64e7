theorem dc_Walk_0 : decode prog_9_method_1_code 0 = .ok (.aload_n 0, 1) := by decide +kernel
theorem dc_Walk_1 : decode prog_9_method_1_code 1 = .ok (.invokespecial 3, 3) := by decide +kernel
theorem dc_Walk_4 : decode prog_9_method_1_code 4 = .ok (.aload_n 0, 1) := by decide +kernel
theorem dc_Walk_5 : decode prog_9_method_1_code 5 = .ok (.bipush 25, 2) := by decide +kernel
theorem dc_Walk_7 : decode prog_9_method_1_code 7 = .ok (.newarray .int, 2) := by decide +kernel
theorem dc_Walk_9 : decode prog_9_method_1_code 9 = .ok (.putfield 9, 3) := by decide +kernel
theorem dc_Walk_12 : decode prog_9_method_1_code 12 = .ok (.aload_n 0, 1) := by decide +kernel
theorem dc_Walk_13 : decode prog_9_method_1_code 13 = .ok (.bipush 25, 2) := by decide +kernel
theorem dc_Walk_15 : decode prog_9_method_1_code 15 = .ok (.newarray .int, 2) := by decide +kernel
theorem dc_Walk_17 : decode prog_9_method_1_code 17 = .ok (.putfield 15, 3) := by decide +kernel
theorem dc_Walk_20 : decode prog_9_method_1_code 20 = .ok (.aload_n 0, 1) := by decide +kernel
theorem dc_Walk_21 : decode prog_9_method_1_code 21 = .ok (.bipush 25, 2) := by decide +kernel
theorem dc_Walk_23 : decode prog_9_method_1_code 23 = .ok (.newarray .int, 2) := by decide +kernel
theorem dc_Walk_25 : decode prog_9_method_1_code 25 = .ok (.putfield 18, 3) := by decide +kernel
theorem dc_Walk_28 : decode prog_9_method_1_code 28 = .ok (.aload_n 0, 1) := by decide +kernel
theorem dc_Walk_29 : decode prog_9_method_1_code 29 = .ok (.bipush 25, 2) := by decide +kernel
theorem dc_Walk_31 : decode prog_9_method_1_code 31 = .ok (.newarray .int, 2) := by decide +kernel
theorem dc_Walk_33 : decode prog_9_method_1_code 33 = .ok (.putfield 21, 3) := by decide +kernel
theorem dc_Walk_36 : decode prog_9_method_1_code 36 = .ok (.aload_n 0, 1) := by decide +kernel
theorem dc_Walk_37 : decode prog_9_method_1_code 37 = .ok (.bipush 6, 2) := by decide +kernel
theorem dc_Walk_39 : decode prog_9_method_1_code 39 = .ok (.bipush 25, 2) := by decide +kernel
theorem dc_Walk_41 : decode prog_9_method_1_code 41 = .ok (.multianewarray 24 2, 4) := by decide +kernel
theorem dc_Walk_45 : decode prog_9_method_1_code 45 = .ok (.putfield 26, 3) := by decide +kernel
theorem dc_Walk_48 : decode prog_9_method_1_code 48 = .ok (.aload_n 0, 1) := by decide +kernel
theorem dc_Walk_49 : decode prog_9_method_1_code 49 = .ok (.bipush 7, 2) := by decide +kernel
theorem dc_Walk_51 : decode prog_9_method_1_code 51 = .ok (.bipush 25, 2) := by decide +kernel
theorem dc_Walk_53 : decode prog_9_method_1_code 53 = .ok (.multianewarray 24 2, 4) := by decide +kernel
theorem dc_Walk_57 : decode prog_9_method_1_code 57 = .ok (.putfield 29, 3) := by decide +kernel
theorem dc_Walk_60 : decode prog_9_method_1_code 60 = .ok (.return_, 1) := by decide +kernel
def rm_LWalk (g : rb_G) (q : Nat) : List va_E := (.inr (7, [.ref (q + 1), .ref (q + 2), .ref (q + 3), .ref (q + 4), .ref (q + 5), .ref (q + 12), .int 0, .int 0]) :: ([rm_i g 0 25] ++ [rm_i g 0 25] ++ [rm_i g 0 25] ++ [rm_i g 0 25] ++ rm_grid g (q + 5) 6 25 ++ rm_grid g (q + 12) 7 25))
set_option maxRecDepth 100000 in
set_option maxHeartbeats 4000000 in
theorem rm_mk_Walk (HM : rm_Multi) (l : Launch) (g : rb_G) (B : Nat) : rm_Mk l g B ⟨"RentBoard$Walk", "<init>", "()V"⟩ prog_9_method_1_code 1 1 7 [.null, .null, .null, .null, .null, .null, .int 0, .int 0] [] (rm_LWalk g) 19 438 := rm_Mk_of (o := 7) (by decide +kernel) rfl rfl (fun q => Nat.le_of_ble_eq_true rfl) (fun X q hX C hi => by
  subst hX
  refine rm_aload_n (j := 0) C dc_Walk_0 0 rfl ?_
  refine rm_obj (idx := 3) C (by decide) (Nat.le_of_ble_eq_true rfl) dc_Walk_1 (rb_w1 210 rfl rfl) (rb_w1 30 rfl rfl) (rb_w1 31 rfl rfl) ?_
  refine rm_aload_n (j := 0) C dc_Walk_4 0 rfl ?_
  refine rm_bipush C dc_Walk_5 rfl ?_
  refine rm_newa (L := [.inr (7, [.null, .null, .null, .null, .null, .null, .int 0, .int 0])]) C (atype := .int) (t := 0) (N := 25) (a0 := (25, .inl fun _ => 0)) dc_Walk_7 (rb_w1 112 rfl rfl) rfl (fun _ => rfl) (by decide) rfl (Nat.le_of_ble_eq_true rfl) (Nat.le_of_ble_eq_true rfl) (Nat.le_of_ble_eq_true rfl) ?_
  refine rm_put (L := (.inr (7, [.null, .null, .null, .null, .null, .null, .int 0, .int 0]) :: ([rm_i g 0 25]))) C hi (ci := 7) (k := 0) (j := 0) (fs := [.null, .null, .null, .null, .null, .null, .int 0, .int 0]) (v := .ref (q + 1)) (by decide) dc_Walk_9 rfl rfl (Nat.le_of_ble_eq_true rfl) rfl rfl rfl ?_
  show rm_Ok X g q 1 1 25 (rm_R X g q (rm_LWalk g q) 19 438) (.inr (7, [.ref (q + 1), .null, .null, .null, .null, .null, .int 0, .int 0]) :: ([rm_i g 0 25])) 12 [(0, .ref q)] []
  refine rm_aload_n (j := 0) C dc_Walk_12 0 rfl ?_
  refine rm_bipush C dc_Walk_13 rfl ?_
  refine rm_newa (L := (.inr (7, [.ref (q + 1), .null, .null, .null, .null, .null, .int 0, .int 0]) :: ([rm_i g 0 25]))) C (atype := .int) (t := 0) (N := 25) (a0 := (25, .inl fun _ => 0)) dc_Walk_15 (rb_w1 112 rfl rfl) rfl (fun _ => rfl) (by decide) rfl (Nat.le_of_ble_eq_true rfl) (Nat.le_of_ble_eq_true rfl) (Nat.le_of_ble_eq_true rfl) ?_
  refine rm_put (L := (.inr (7, [.ref (q + 1), .null, .null, .null, .null, .null, .int 0, .int 0]) :: ([rm_i g 0 25] ++ [rm_i g 0 25]))) C hi (ci := 7) (k := 1) (j := 0) (fs := [.ref (q + 1), .null, .null, .null, .null, .null, .int 0, .int 0]) (v := .ref (q + 2)) (by decide) dc_Walk_17 rfl rfl (Nat.le_of_ble_eq_true rfl) rfl rfl rfl ?_
  show rm_Ok X g q 1 2 50 (rm_R X g q (rm_LWalk g q) 19 438) (.inr (7, [.ref (q + 1), .ref (q + 2), .null, .null, .null, .null, .int 0, .int 0]) :: ([rm_i g 0 25] ++ [rm_i g 0 25])) 20 [(0, .ref q)] []
  refine rm_aload_n (j := 0) C dc_Walk_20 0 rfl ?_
  refine rm_bipush C dc_Walk_21 rfl ?_
  refine rm_newa (L := (.inr (7, [.ref (q + 1), .ref (q + 2), .null, .null, .null, .null, .int 0, .int 0]) :: ([rm_i g 0 25] ++ [rm_i g 0 25]))) C (atype := .int) (t := 0) (N := 25) (a0 := (25, .inl fun _ => 0)) dc_Walk_23 (rb_w1 112 rfl rfl) rfl (fun _ => rfl) (by decide) rfl (Nat.le_of_ble_eq_true rfl) (Nat.le_of_ble_eq_true rfl) (Nat.le_of_ble_eq_true rfl) ?_
  refine rm_put (L := (.inr (7, [.ref (q + 1), .ref (q + 2), .null, .null, .null, .null, .int 0, .int 0]) :: ([rm_i g 0 25] ++ [rm_i g 0 25] ++ [rm_i g 0 25]))) C hi (ci := 7) (k := 2) (j := 0) (fs := [.ref (q + 1), .ref (q + 2), .null, .null, .null, .null, .int 0, .int 0]) (v := .ref (q + 3)) (by decide) dc_Walk_25 rfl rfl (Nat.le_of_ble_eq_true rfl) rfl rfl rfl ?_
  show rm_Ok X g q 1 3 75 (rm_R X g q (rm_LWalk g q) 19 438) (.inr (7, [.ref (q + 1), .ref (q + 2), .ref (q + 3), .null, .null, .null, .int 0, .int 0]) :: ([rm_i g 0 25] ++ [rm_i g 0 25] ++ [rm_i g 0 25])) 28 [(0, .ref q)] []
  refine rm_aload_n (j := 0) C dc_Walk_28 0 rfl ?_
  refine rm_bipush C dc_Walk_29 rfl ?_
  refine rm_newa (L := (.inr (7, [.ref (q + 1), .ref (q + 2), .ref (q + 3), .null, .null, .null, .int 0, .int 0]) :: ([rm_i g 0 25] ++ [rm_i g 0 25] ++ [rm_i g 0 25]))) C (atype := .int) (t := 0) (N := 25) (a0 := (25, .inl fun _ => 0)) dc_Walk_31 (rb_w1 112 rfl rfl) rfl (fun _ => rfl) (by decide) rfl (Nat.le_of_ble_eq_true rfl) (Nat.le_of_ble_eq_true rfl) (Nat.le_of_ble_eq_true rfl) ?_
  refine rm_put (L := (.inr (7, [.ref (q + 1), .ref (q + 2), .ref (q + 3), .null, .null, .null, .int 0, .int 0]) :: ([rm_i g 0 25] ++ [rm_i g 0 25] ++ [rm_i g 0 25] ++ [rm_i g 0 25]))) C hi (ci := 7) (k := 3) (j := 0) (fs := [.ref (q + 1), .ref (q + 2), .ref (q + 3), .null, .null, .null, .int 0, .int 0]) (v := .ref (q + 4)) (by decide) dc_Walk_33 rfl rfl (Nat.le_of_ble_eq_true rfl) rfl rfl rfl ?_
  show rm_Ok X g q 1 4 100 (rm_R X g q (rm_LWalk g q) 19 438) (.inr (7, [.ref (q + 1), .ref (q + 2), .ref (q + 3), .ref (q + 4), .null, .null, .int 0, .int 0]) :: ([rm_i g 0 25] ++ [rm_i g 0 25] ++ [rm_i g 0 25] ++ [rm_i g 0 25])) 36 [(0, .ref q)] []
  refine rm_aload_n (j := 0) C dc_Walk_36 0 rfl ?_
  refine rm_bipush C dc_Walk_37 rfl ?_
  refine rm_bipush C dc_Walk_39 rfl ?_
  refine HM (L := (.inr (7, [.ref (q + 1), .ref (q + 2), .ref (q + 3), .ref (q + 4), .null, .null, .int 0, .int 0]) :: ([rm_i g 0 25] ++ [rm_i g 0 25] ++ [rm_i g 0 25] ++ [rm_i g 0 25]))) (N := 6) (K := 25) C dc_Walk_41 (rb_w1 211 rfl rfl) (by decide) (by decide) rfl rfl (Nat.le_of_ble_eq_true rfl) (Nat.le_of_ble_eq_true rfl) (Nat.le_of_ble_eq_true rfl) (Nat.le_of_ble_eq_true rfl) ?_
  refine rm_put (L := (.inr (7, [.ref (q + 1), .ref (q + 2), .ref (q + 3), .ref (q + 4), .null, .null, .int 0, .int 0]) :: ([rm_i g 0 25] ++ [rm_i g 0 25] ++ [rm_i g 0 25] ++ [rm_i g 0 25] ++ rm_grid g (q + 5) 6 25))) C hi (ci := 7) (k := 4) (j := 0) (fs := [.ref (q + 1), .ref (q + 2), .ref (q + 3), .ref (q + 4), .null, .null, .int 0, .int 0]) (v := .ref (q + 5)) (by decide) dc_Walk_45 rfl rfl (Nat.le_of_ble_eq_true rfl) rfl rfl rfl ?_
  show rm_Ok X g q 1 11 256 (rm_R X g q (rm_LWalk g q) 19 438) (.inr (7, [.ref (q + 1), .ref (q + 2), .ref (q + 3), .ref (q + 4), .ref (q + 5), .null, .int 0, .int 0]) :: ([rm_i g 0 25] ++ [rm_i g 0 25] ++ [rm_i g 0 25] ++ [rm_i g 0 25] ++ rm_grid g (q + 5) 6 25)) 48 [(0, .ref q)] []
  refine rm_aload_n (j := 0) C dc_Walk_48 0 rfl ?_
  refine rm_bipush C dc_Walk_49 rfl ?_
  refine rm_bipush C dc_Walk_51 rfl ?_
  refine HM (L := (.inr (7, [.ref (q + 1), .ref (q + 2), .ref (q + 3), .ref (q + 4), .ref (q + 5), .null, .int 0, .int 0]) :: ([rm_i g 0 25] ++ [rm_i g 0 25] ++ [rm_i g 0 25] ++ [rm_i g 0 25] ++ rm_grid g (q + 5) 6 25))) (N := 7) (K := 25) C dc_Walk_53 (rb_w1 211 rfl rfl) (by decide) (by decide) rfl rfl (Nat.le_of_ble_eq_true rfl) (Nat.le_of_ble_eq_true rfl) (Nat.le_of_ble_eq_true rfl) (Nat.le_of_ble_eq_true rfl) ?_
  refine rm_put (L := (.inr (7, [.ref (q + 1), .ref (q + 2), .ref (q + 3), .ref (q + 4), .ref (q + 5), .null, .int 0, .int 0]) :: ([rm_i g 0 25] ++ [rm_i g 0 25] ++ [rm_i g 0 25] ++ [rm_i g 0 25] ++ rm_grid g (q + 5) 6 25 ++ rm_grid g (q + 12) 7 25))) C hi (ci := 7) (k := 5) (j := 0) (fs := [.ref (q + 1), .ref (q + 2), .ref (q + 3), .ref (q + 4), .ref (q + 5), .null, .int 0, .int 0]) (v := .ref (q + 12)) (by decide) dc_Walk_57 rfl rfl (Nat.le_of_ble_eq_true rfl) rfl rfl rfl ?_
  show rm_Ok X g q 1 19 438 (rm_R X g q (rm_LWalk g q) 19 438) (.inr (7, [.ref (q + 1), .ref (q + 2), .ref (q + 3), .ref (q + 4), .ref (q + 5), .ref (q + 12), .int 0, .int 0]) :: ([rm_i g 0 25] ++ [rm_i g 0 25] ++ [rm_i g 0 25] ++ [rm_i g 0 25] ++ rm_grid g (q + 5) 6 25 ++ rm_grid g (q + 12) 7 25)) 60 [(0, .ref q)] []
  exact rm_ret C hi (Nat.le_of_ble_eq_true rfl) (Nat.le_of_ble_eq_true rfl) dc_Walk_60)
