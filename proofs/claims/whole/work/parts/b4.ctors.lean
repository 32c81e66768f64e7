/-! the constructors -/
theorem dc_State_0 : decode prog_7_method_1_code 0 = .ok (.aload_n 0, 1) := by decide +kernel
theorem dc_State_1 : decode prog_7_method_1_code 1 = .ok (.invokespecial 3, 3) := by decide +kernel
theorem dc_State_4 : decode prog_7_method_1_code 4 = .ok (.aload_n 0, 1) := by decide +kernel
theorem dc_State_5 : decode prog_7_method_1_code 5 = .ok (.bipush 8, 2) := by decide +kernel
theorem dc_State_7 : decode prog_7_method_1_code 7 = .ok (.newarray .int, 2) := by decide +kernel
theorem dc_State_9 : decode prog_7_method_1_code 9 = .ok (.putfield 9, 3) := by decide +kernel
theorem dc_State_12 : decode prog_7_method_1_code 12 = .ok (.aload_n 0, 1) := by decide +kernel
theorem dc_State_13 : decode prog_7_method_1_code 13 = .ok (.bipush 8, 2) := by decide +kernel
theorem dc_State_15 : decode prog_7_method_1_code 15 = .ok (.newarray .int, 2) := by decide +kernel
theorem dc_State_17 : decode prog_7_method_1_code 17 = .ok (.putfield 15, 3) := by decide +kernel
theorem dc_State_20 : decode prog_7_method_1_code 20 = .ok (.aload_n 0, 1) := by decide +kernel
theorem dc_State_21 : decode prog_7_method_1_code 21 = .ok (.bipush 8, 2) := by decide +kernel
theorem dc_State_23 : decode prog_7_method_1_code 23 = .ok (.newarray .int, 2) := by decide +kernel
theorem dc_State_25 : decode prog_7_method_1_code 25 = .ok (.putfield 18, 3) := by decide +kernel
theorem dc_State_28 : decode prog_7_method_1_code 28 = .ok (.aload_n 0, 1) := by decide +kernel
theorem dc_State_29 : decode prog_7_method_1_code 29 = .ok (.bipush 8, 2) := by decide +kernel
theorem dc_State_31 : decode prog_7_method_1_code 31 = .ok (.newarray .int, 2) := by decide +kernel
theorem dc_State_33 : decode prog_7_method_1_code 33 = .ok (.putfield 21, 3) := by decide +kernel
theorem dc_State_36 : decode prog_7_method_1_code 36 = .ok (.aload_n 0, 1) := by decide +kernel
theorem dc_State_37 : decode prog_7_method_1_code 37 = .ok (.bipush 8, 2) := by decide +kernel
theorem dc_State_39 : decode prog_7_method_1_code 39 = .ok (.newarray .int, 2) := by decide +kernel
theorem dc_State_41 : decode prog_7_method_1_code 41 = .ok (.putfield 24, 3) := by decide +kernel
theorem dc_State_44 : decode prog_7_method_1_code 44 = .ok (.return_, 1) := by decide +kernel
def rm_LState (g : rb_G) (q : Nat) : List va_E := (.inr (5, [.ref (q + 1), .ref (q + 2), .ref (q + 3), .ref (q + 4), .ref (q + 5), .int 0, .int 0, .int 0, .int 0]) :: ([rm_i g 0 8] ++ [rm_i g 0 8] ++ [rm_i g 0 8] ++ [rm_i g 0 8] ++ [rm_i g 0 8]))
set_option maxRecDepth 100000 in
set_option maxHeartbeats 4000000 in
theorem rm_mk_State (l : Launch) (g : rb_G) (B : Nat) : rm_Mk l g B ⟨"RentBoard$State", "<init>", "()V"⟩ prog_7_method_1_code 1 1 5 [.null, .null, .null, .null, .null, .int 0, .int 0, .int 0, .int 0] [] (rm_LState g) 5 40 := rm_Mk_of (o := 5) (by decide +kernel) rfl rfl (fun q => Nat.le_of_ble_eq_true rfl) (fun X q hX C hi => by
  subst hX
  refine rm_aload_n (j := 0) C dc_State_0 0 rfl ?_
  refine rm_obj (idx := 3) C (by decide) (Nat.le_of_ble_eq_true rfl) dc_State_1 (rb_w1 120 rfl rfl) (rb_w1 30 rfl rfl) (rb_w1 31 rfl rfl) ?_
  refine rm_aload_n (j := 0) C dc_State_4 0 rfl ?_
  refine rm_bipush C dc_State_5 rfl ?_
  refine rm_newa (L := [.inr (5, [.null, .null, .null, .null, .null, .int 0, .int 0, .int 0, .int 0])]) C (atype := .int) (t := 0) (N := 8) (a0 := (8, .inl fun _ => 0)) dc_State_7 (rb_w1 112 rfl rfl) rfl (fun _ => rfl) (by decide) rfl (Nat.le_of_ble_eq_true rfl) (Nat.le_of_ble_eq_true rfl) (Nat.le_of_ble_eq_true rfl) ?_
  refine rm_put (L := (.inr (5, [.null, .null, .null, .null, .null, .int 0, .int 0, .int 0, .int 0]) :: ([rm_i g 0 8]))) C hi (ci := 5) (k := 0) (j := 0) (fs := [.null, .null, .null, .null, .null, .int 0, .int 0, .int 0, .int 0]) (v := .ref (q + 1)) (by decide) dc_State_9 rfl rfl (Nat.le_of_ble_eq_true rfl) rfl rfl rfl ?_
  show rm_Ok X g q 1 1 8 (rm_R X g q (rm_LState g q) 5 40) (.inr (5, [.ref (q + 1), .null, .null, .null, .null, .int 0, .int 0, .int 0, .int 0]) :: ([rm_i g 0 8])) 12 [(0, .ref q)] []
  refine rm_aload_n (j := 0) C dc_State_12 0 rfl ?_
  refine rm_bipush C dc_State_13 rfl ?_
  refine rm_newa (L := (.inr (5, [.ref (q + 1), .null, .null, .null, .null, .int 0, .int 0, .int 0, .int 0]) :: ([rm_i g 0 8]))) C (atype := .int) (t := 0) (N := 8) (a0 := (8, .inl fun _ => 0)) dc_State_15 (rb_w1 112 rfl rfl) rfl (fun _ => rfl) (by decide) rfl (Nat.le_of_ble_eq_true rfl) (Nat.le_of_ble_eq_true rfl) (Nat.le_of_ble_eq_true rfl) ?_
  refine rm_put (L := (.inr (5, [.ref (q + 1), .null, .null, .null, .null, .int 0, .int 0, .int 0, .int 0]) :: ([rm_i g 0 8] ++ [rm_i g 0 8]))) C hi (ci := 5) (k := 1) (j := 0) (fs := [.ref (q + 1), .null, .null, .null, .null, .int 0, .int 0, .int 0, .int 0]) (v := .ref (q + 2)) (by decide) dc_State_17 rfl rfl (Nat.le_of_ble_eq_true rfl) rfl rfl rfl ?_
  show rm_Ok X g q 1 2 16 (rm_R X g q (rm_LState g q) 5 40) (.inr (5, [.ref (q + 1), .ref (q + 2), .null, .null, .null, .int 0, .int 0, .int 0, .int 0]) :: ([rm_i g 0 8] ++ [rm_i g 0 8])) 20 [(0, .ref q)] []
  refine rm_aload_n (j := 0) C dc_State_20 0 rfl ?_
  refine rm_bipush C dc_State_21 rfl ?_
  refine rm_newa (L := (.inr (5, [.ref (q + 1), .ref (q + 2), .null, .null, .null, .int 0, .int 0, .int 0, .int 0]) :: ([rm_i g 0 8] ++ [rm_i g 0 8]))) C (atype := .int) (t := 0) (N := 8) (a0 := (8, .inl fun _ => 0)) dc_State_23 (rb_w1 112 rfl rfl) rfl (fun _ => rfl) (by decide) rfl (Nat.le_of_ble_eq_true rfl) (Nat.le_of_ble_eq_true rfl) (Nat.le_of_ble_eq_true rfl) ?_
  refine rm_put (L := (.inr (5, [.ref (q + 1), .ref (q + 2), .null, .null, .null, .int 0, .int 0, .int 0, .int 0]) :: ([rm_i g 0 8] ++ [rm_i g 0 8] ++ [rm_i g 0 8]))) C hi (ci := 5) (k := 2) (j := 0) (fs := [.ref (q + 1), .ref (q + 2), .null, .null, .null, .int 0, .int 0, .int 0, .int 0]) (v := .ref (q + 3)) (by decide) dc_State_25 rfl rfl (Nat.le_of_ble_eq_true rfl) rfl rfl rfl ?_
  show rm_Ok X g q 1 3 24 (rm_R X g q (rm_LState g q) 5 40) (.inr (5, [.ref (q + 1), .ref (q + 2), .ref (q + 3), .null, .null, .int 0, .int 0, .int 0, .int 0]) :: ([rm_i g 0 8] ++ [rm_i g 0 8] ++ [rm_i g 0 8])) 28 [(0, .ref q)] []
  refine rm_aload_n (j := 0) C dc_State_28 0 rfl ?_
  refine rm_bipush C dc_State_29 rfl ?_
  refine rm_newa (L := (.inr (5, [.ref (q + 1), .ref (q + 2), .ref (q + 3), .null, .null, .int 0, .int 0, .int 0, .int 0]) :: ([rm_i g 0 8] ++ [rm_i g 0 8] ++ [rm_i g 0 8]))) C (atype := .int) (t := 0) (N := 8) (a0 := (8, .inl fun _ => 0)) dc_State_31 (rb_w1 112 rfl rfl) rfl (fun _ => rfl) (by decide) rfl (Nat.le_of_ble_eq_true rfl) (Nat.le_of_ble_eq_true rfl) (Nat.le_of_ble_eq_true rfl) ?_
  refine rm_put (L := (.inr (5, [.ref (q + 1), .ref (q + 2), .ref (q + 3), .null, .null, .int 0, .int 0, .int 0, .int 0]) :: ([rm_i g 0 8] ++ [rm_i g 0 8] ++ [rm_i g 0 8] ++ [rm_i g 0 8]))) C hi (ci := 5) (k := 3) (j := 0) (fs := [.ref (q + 1), .ref (q + 2), .ref (q + 3), .null, .null, .int 0, .int 0, .int 0, .int 0]) (v := .ref (q + 4)) (by decide) dc_State_33 rfl rfl (Nat.le_of_ble_eq_true rfl) rfl rfl rfl ?_
  show rm_Ok X g q 1 4 32 (rm_R X g q (rm_LState g q) 5 40) (.inr (5, [.ref (q + 1), .ref (q + 2), .ref (q + 3), .ref (q + 4), .null, .int 0, .int 0, .int 0, .int 0]) :: ([rm_i g 0 8] ++ [rm_i g 0 8] ++ [rm_i g 0 8] ++ [rm_i g 0 8])) 36 [(0, .ref q)] []
  refine rm_aload_n (j := 0) C dc_State_36 0 rfl ?_
  refine rm_bipush C dc_State_37 rfl ?_
  refine rm_newa (L := (.inr (5, [.ref (q + 1), .ref (q + 2), .ref (q + 3), .ref (q + 4), .null, .int 0, .int 0, .int 0, .int 0]) :: ([rm_i g 0 8] ++ [rm_i g 0 8] ++ [rm_i g 0 8] ++ [rm_i g 0 8]))) C (atype := .int) (t := 0) (N := 8) (a0 := (8, .inl fun _ => 0)) dc_State_39 (rb_w1 112 rfl rfl) rfl (fun _ => rfl) (by decide) rfl (Nat.le_of_ble_eq_true rfl) (Nat.le_of_ble_eq_true rfl) (Nat.le_of_ble_eq_true rfl) ?_
  refine rm_put (L := (.inr (5, [.ref (q + 1), .ref (q + 2), .ref (q + 3), .ref (q + 4), .null, .int 0, .int 0, .int 0, .int 0]) :: ([rm_i g 0 8] ++ [rm_i g 0 8] ++ [rm_i g 0 8] ++ [rm_i g 0 8] ++ [rm_i g 0 8]))) C hi (ci := 5) (k := 4) (j := 0) (fs := [.ref (q + 1), .ref (q + 2), .ref (q + 3), .ref (q + 4), .null, .int 0, .int 0, .int 0, .int 0]) (v := .ref (q + 5)) (by decide) dc_State_41 rfl rfl (Nat.le_of_ble_eq_true rfl) rfl rfl rfl ?_
  show rm_Ok X g q 1 5 40 (rm_R X g q (rm_LState g q) 5 40) (.inr (5, [.ref (q + 1), .ref (q + 2), .ref (q + 3), .ref (q + 4), .ref (q + 5), .int 0, .int 0, .int 0, .int 0]) :: ([rm_i g 0 8] ++ [rm_i g 0 8] ++ [rm_i g 0 8] ++ [rm_i g 0 8] ++ [rm_i g 0 8])) 44 [(0, .ref q)] []
  exact rm_ret C hi (Nat.le_of_ble_eq_true rfl) (Nat.le_of_ble_eq_true rfl) dc_State_44)
theorem dc_Text_0 : decode prog_8_method_1_code 0 = .ok (.aload_n 0, 1) := by decide +kernel
theorem dc_Text_1 : decode prog_8_method_1_code 1 = .ok (.invokespecial 3, 3) := by decide +kernel
theorem dc_Text_4 : decode prog_8_method_1_code 4 = .ok (.aload_n 0, 1) := by decide +kernel
theorem dc_Text_5 : decode prog_8_method_1_code 5 = .ok (.bipush 80, 2) := by decide +kernel
theorem dc_Text_7 : decode prog_8_method_1_code 7 = .ok (.newarray .char, 2) := by decide +kernel
theorem dc_Text_9 : decode prog_8_method_1_code 9 = .ok (.putfield 9, 3) := by decide +kernel
theorem dc_Text_12 : decode prog_8_method_1_code 12 = .ok (.return_, 1) := by decide +kernel
def rm_LText (g : rb_G) (q : Nat) : List va_E := (.inr (6, [.ref (q + 1), .int 0]) :: ([rm_i g 2 80]))
set_option maxRecDepth 100000 in
set_option maxHeartbeats 4000000 in
theorem rm_mk_Text (l : Launch) (g : rb_G) (B : Nat) : rm_Mk l g B ⟨"RentBoard$Text", "<init>", "()V"⟩ prog_8_method_1_code 1 1 6 [.null, .int 0] [] (rm_LText g) 1 80 := rm_Mk_of (o := 6) (by decide +kernel) rfl rfl (fun q => Nat.le_of_ble_eq_true rfl) (fun X q hX C hi => by
  subst hX
  refine rm_aload_n (j := 0) C dc_Text_0 0 rfl ?_
  refine rm_obj (idx := 3) C (by decide) (Nat.le_of_ble_eq_true rfl) dc_Text_1 (rb_w1 37 rfl rfl) (rb_w1 30 rfl rfl) (rb_w1 31 rfl rfl) ?_
  refine rm_aload_n (j := 0) C dc_Text_4 0 rfl ?_
  refine rm_bipush C dc_Text_5 rfl ?_
  refine rm_newa (L := [.inr (6, [.null, .int 0])]) C (atype := .char) (t := 2) (N := 80) (a0 := (80, .inl fun _ => 0)) dc_Text_7 (rb_w1 47 rfl rfl) rfl (fun _ => rfl) (by decide) rfl (Nat.le_of_ble_eq_true rfl) (Nat.le_of_ble_eq_true rfl) (Nat.le_of_ble_eq_true rfl) ?_
  refine rm_put (L := (.inr (6, [.null, .int 0]) :: ([rm_i g 2 80]))) C hi (ci := 6) (k := 0) (j := 0) (fs := [.null, .int 0]) (v := .ref (q + 1)) (by decide) dc_Text_9 rfl rfl (Nat.le_of_ble_eq_true rfl) rfl rfl rfl ?_
  show rm_Ok X g q 1 1 80 (rm_R X g q (rm_LText g q) 1 80) (.inr (6, [.ref (q + 1), .int 0]) :: ([rm_i g 2 80])) 12 [(0, .ref q)] []
  exact rm_ret C hi (Nat.le_of_ble_eq_true rfl) (Nat.le_of_ble_eq_true rfl) dc_Text_12)
theorem dc_Row_0 : decode prog_5_method_1_code 0 = .ok (.aload_n 0, 1) := by decide +kernel
theorem dc_Row_1 : decode prog_5_method_1_code 1 = .ok (.invokespecial 3, 3) := by decide +kernel
theorem dc_Row_4 : decode prog_5_method_1_code 4 = .ok (.aload_n 0, 1) := by decide +kernel
theorem dc_Row_5 : decode prog_5_method_1_code 5 = .ok (.bipush 25, 2) := by decide +kernel
theorem dc_Row_7 : decode prog_5_method_1_code 7 = .ok (.newarray .long, 2) := by decide +kernel
theorem dc_Row_9 : decode prog_5_method_1_code 9 = .ok (.putfield 9, 3) := by decide +kernel
theorem dc_Row_12 : decode prog_5_method_1_code 12 = .ok (.return_, 1) := by decide +kernel
def rm_LRow (g : rb_G) (q : Nat) : List va_E := (.inr (3, [.ref (q + 1), .int 0]) :: ([rm_l g 25]))
set_option maxRecDepth 100000 in
set_option maxHeartbeats 4000000 in
theorem rm_mk_Row (l : Launch) (g : rb_G) (B : Nat) : rm_Mk l g B ⟨"RentBoard$Row", "<init>", "()V"⟩ prog_5_method_1_code 1 1 3 [.null, .int 0] [] (rm_LRow g) 1 25 := rm_Mk_of (o := 3) (by decide +kernel) rfl rfl (fun q => Nat.le_of_ble_eq_true rfl) (fun X q hX C hi => by
  subst hX
  refine rm_aload_n (j := 0) C dc_Row_0 0 rfl ?_
  refine rm_obj (idx := 3) C (by decide) (Nat.le_of_ble_eq_true rfl) dc_Row_1 (rb_w1 53 rfl rfl) (rb_w1 30 rfl rfl) (rb_w1 31 rfl rfl) ?_
  refine rm_aload_n (j := 0) C dc_Row_4 0 rfl ?_
  refine rm_bipush C dc_Row_5 rfl ?_
  refine rm_newa (L := [.inr (3, [.null, .int 0])]) C (atype := .long) (t := 4) (N := 25) (a0 := (25, .inr (.inl fun _ => 0))) dc_Row_7 (rb_w1 63 rfl rfl) rfl (fun _ => rfl) (by decide) rfl (Nat.le_of_ble_eq_true rfl) (Nat.le_of_ble_eq_true rfl) (Nat.le_of_ble_eq_true rfl) ?_
  refine rm_put (L := (.inr (3, [.null, .int 0]) :: ([rm_l g 25]))) C hi (ci := 3) (k := 0) (j := 0) (fs := [.null, .int 0]) (v := .ref (q + 1)) (by decide) dc_Row_9 rfl rfl (Nat.le_of_ble_eq_true rfl) rfl rfl rfl ?_
  show rm_Ok X g q 1 1 25 (rm_R X g q (rm_LRow g q) 1 25) (.inr (3, [.ref (q + 1), .int 0]) :: ([rm_l g 25])) 12 [(0, .ref q)] []
  exact rm_ret C hi (Nat.le_of_ble_eq_true rfl) (Nat.le_of_ble_eq_true rfl) dc_Row_12)
theorem dc_Facts_0 : decode prog_2_method_1_code 0 = .ok (.aload_n 0, 1) := by decide +kernel
theorem dc_Facts_1 : decode prog_2_method_1_code 1 = .ok (.invokespecial 3, 3) := by decide +kernel
theorem dc_Facts_4 : decode prog_2_method_1_code 4 = .ok (.aload_n 0, 1) := by decide +kernel
theorem dc_Facts_5 : decode prog_2_method_1_code 5 = .ok (.bipush 12, 2) := by decide +kernel
theorem dc_Facts_7 : decode prog_2_method_1_code 7 = .ok (.newarray .int, 2) := by decide +kernel
theorem dc_Facts_9 : decode prog_2_method_1_code 9 = .ok (.putfield 9, 3) := by decide +kernel
theorem dc_Facts_12 : decode prog_2_method_1_code 12 = .ok (.aload_n 0, 1) := by decide +kernel
theorem dc_Facts_13 : decode prog_2_method_1_code 13 = .ok (.bipush 12, 2) := by decide +kernel
theorem dc_Facts_15 : decode prog_2_method_1_code 15 = .ok (.newarray .int, 2) := by decide +kernel
theorem dc_Facts_17 : decode prog_2_method_1_code 17 = .ok (.putfield 15, 3) := by decide +kernel
theorem dc_Facts_20 : decode prog_2_method_1_code 20 = .ok (.aload_n 0, 1) := by decide +kernel
theorem dc_Facts_21 : decode prog_2_method_1_code 21 = .ok (.iload_n 1, 1) := by decide +kernel
theorem dc_Facts_22 : decode prog_2_method_1_code 22 = .ok (.putfield 18, 3) := by decide +kernel
theorem dc_Facts_25 : decode prog_2_method_1_code 25 = .ok (.return_, 1) := by decide +kernel
def rm_LFacts (g : rb_G) (v : Int32) (q : Nat) : List va_E := (.inr (0, [.int v, .ref (q + 1), .ref (q + 2), .int 0]) :: ([rm_i g 0 12] ++ [rm_i g 0 12]))
set_option maxRecDepth 100000 in
set_option maxHeartbeats 4000000 in
theorem rm_mk_Facts (l : Launch) (g : rb_G) (B : Nat) (v : Int32) : rm_Mk l g B ⟨"RentBoard$Facts", "<init>", "(I)V"⟩ prog_2_method_1_code 2 1 0 [.int 0, .null, .null, .int 0] [.int v] (rm_LFacts g v) 2 24 := rm_Mk_of (o := 0) (by decide +kernel) rfl rfl (fun q => Nat.le_of_ble_eq_true rfl) (fun X q hX C hi => by
  subst hX
  refine rm_aload_n (j := 0) C dc_Facts_0 0 rfl ?_
  refine rm_obj (idx := 3) C (by decide) (Nat.le_of_ble_eq_true rfl) dc_Facts_1 (rb_w1 188 rfl rfl) (rb_w1 30 rfl rfl) (rb_w1 31 rfl rfl) ?_
  refine rm_aload_n (j := 0) C dc_Facts_4 0 rfl ?_
  refine rm_bipush C dc_Facts_5 rfl ?_
  refine rm_newa (L := [.inr (0, [.int 0, .null, .null, .int 0])]) C (atype := .int) (t := 0) (N := 12) (a0 := (12, .inl fun _ => 0)) dc_Facts_7 (rb_w1 112 rfl rfl) rfl (fun _ => rfl) (by decide) rfl (Nat.le_of_ble_eq_true rfl) (Nat.le_of_ble_eq_true rfl) (Nat.le_of_ble_eq_true rfl) ?_
  refine rm_put (L := (.inr (0, [.int 0, .null, .null, .int 0]) :: ([rm_i g 0 12]))) C hi (ci := 0) (k := 1) (j := 0) (fs := [.int 0, .null, .null, .int 0]) (v := .ref (q + 1)) (by decide) dc_Facts_9 rfl rfl (Nat.le_of_ble_eq_true rfl) rfl rfl rfl ?_
  show rm_Ok X g q 2 1 12 (rm_R X g q (rm_LFacts g v q) 2 24) (.inr (0, [.int 0, .ref (q + 1), .null, .int 0]) :: ([rm_i g 0 12])) 12 [(0, .ref q), (1, .int v)] []
  refine rm_aload_n (j := 0) C dc_Facts_12 0 rfl ?_
  refine rm_bipush C dc_Facts_13 rfl ?_
  refine rm_newa (L := (.inr (0, [.int 0, .ref (q + 1), .null, .int 0]) :: ([rm_i g 0 12]))) C (atype := .int) (t := 0) (N := 12) (a0 := (12, .inl fun _ => 0)) dc_Facts_15 (rb_w1 112 rfl rfl) rfl (fun _ => rfl) (by decide) rfl (Nat.le_of_ble_eq_true rfl) (Nat.le_of_ble_eq_true rfl) (Nat.le_of_ble_eq_true rfl) ?_
  refine rm_put (L := (.inr (0, [.int 0, .ref (q + 1), .null, .int 0]) :: ([rm_i g 0 12] ++ [rm_i g 0 12]))) C hi (ci := 0) (k := 2) (j := 0) (fs := [.int 0, .ref (q + 1), .null, .int 0]) (v := .ref (q + 2)) (by decide) dc_Facts_17 rfl rfl (Nat.le_of_ble_eq_true rfl) rfl rfl rfl ?_
  show rm_Ok X g q 2 2 24 (rm_R X g q (rm_LFacts g v q) 2 24) (.inr (0, [.int 0, .ref (q + 1), .ref (q + 2), .int 0]) :: ([rm_i g 0 12] ++ [rm_i g 0 12])) 20 [(0, .ref q), (1, .int v)] []
  refine rm_aload_n (j := 0) C dc_Facts_20 0 rfl ?_
  refine rm_iload_n (j := 1) C dc_Facts_21 1 rfl ?_
  refine rm_put (L := (.inr (0, [.int 0, .ref (q + 1), .ref (q + 2), .int 0]) :: ([rm_i g 0 12] ++ [rm_i g 0 12]))) C hi (ci := 0) (k := 0) (j := 0) (fs := [.int 0, .ref (q + 1), .ref (q + 2), .int 0]) (v := .int v) (by decide) dc_Facts_22 rfl rfl (Nat.le_of_ble_eq_true rfl) rfl rfl rfl ?_
  show rm_Ok X g q 2 2 24 (rm_R X g q (rm_LFacts g v q) 2 24) (.inr (0, [.int v, .ref (q + 1), .ref (q + 2), .int 0]) :: ([rm_i g 0 12] ++ [rm_i g 0 12])) 25 [(0, .ref q), (1, .int v)] []
  exact rm_ret C hi (Nat.le_of_ble_eq_true rfl) (Nat.le_of_ble_eq_true rfl) dc_Facts_25)
theorem dc_Rule_0 : decode prog_6_method_1_code 0 = .ok (.aload_n 0, 1) := by decide +kernel
theorem dc_Rule_1 : decode prog_6_method_1_code 1 = .ok (.invokespecial 3, 3) := by decide +kernel
theorem dc_Rule_4 : decode prog_6_method_1_code 4 = .ok (.aload_n 0, 1) := by decide +kernel
theorem dc_Rule_5 : decode prog_6_method_1_code 5 = .ok (.bipush 40, 2) := by decide +kernel
theorem dc_Rule_7 : decode prog_6_method_1_code 7 = .ok (.newarray .int, 2) := by decide +kernel
theorem dc_Rule_9 : decode prog_6_method_1_code 9 = .ok (.putfield 9, 3) := by decide +kernel
theorem dc_Rule_12 : decode prog_6_method_1_code 12 = .ok (.aload_n 0, 1) := by decide +kernel
theorem dc_Rule_13 : decode prog_6_method_1_code 13 = .ok (.bipush 40, 2) := by decide +kernel
theorem dc_Rule_15 : decode prog_6_method_1_code 15 = .ok (.newarray .int, 2) := by decide +kernel
theorem dc_Rule_17 : decode prog_6_method_1_code 17 = .ok (.putfield 15, 3) := by decide +kernel
theorem dc_Rule_20 : decode prog_6_method_1_code 20 = .ok (.aload_n 0, 1) := by decide +kernel
theorem dc_Rule_21 : decode prog_6_method_1_code 21 = .ok (.bipush 40, 2) := by decide +kernel
theorem dc_Rule_23 : decode prog_6_method_1_code 23 = .ok (.newarray .int, 2) := by decide +kernel
theorem dc_Rule_25 : decode prog_6_method_1_code 25 = .ok (.putfield 18, 3) := by decide +kernel
theorem dc_Rule_28 : decode prog_6_method_1_code 28 = .ok (.aload_n 0, 1) := by decide +kernel
theorem dc_Rule_29 : decode prog_6_method_1_code 29 = .ok (.iconst 5, 1) := by decide +kernel
theorem dc_Rule_30 : decode prog_6_method_1_code 30 = .ok (.newarray .boolean, 2) := by decide +kernel
theorem dc_Rule_32 : decode prog_6_method_1_code 32 = .ok (.putfield 21, 3) := by decide +kernel
theorem dc_Rule_35 : decode prog_6_method_1_code 35 = .ok (.aload_n 0, 1) := by decide +kernel
theorem dc_Rule_36 : decode prog_6_method_1_code 36 = .ok (.ldc 25, 2) := by decide +kernel
theorem dc_Rule_38 : decode prog_6_method_1_code 38 = .ok (.invokevirtual 27, 3) := by decide +kernel
theorem dc_Rule_41 : decode prog_6_method_1_code 41 = .ok (.newarray .int, 2) := by decide +kernel
theorem dc_Rule_43 : decode prog_6_method_1_code 43 = .ok (.putfield 33, 3) := by decide +kernel
theorem dc_Rule_46 : decode prog_6_method_1_code 46 = .ok (.return_, 1) := by decide +kernel
def rm_LRule (g : rb_G) (q : Nat) : List va_E := (.inr (4, [.ref (q + 1), .ref (q + 2), .ref (q + 3), .ref (q + 4), .ref (q + 5), .int 0, .int 0, .int 0, .int 0, .int 0]) :: ([rm_i g 0 40] ++ [rm_i g 0 40] ++ [rm_i g 0 40] ++ [rm_i g 1 5] ++ [rm_i g 0 7]))
set_option maxRecDepth 100000 in
set_option maxHeartbeats 4000000 in
theorem rm_mk_Rule (l : Launch) (g : rb_G) (B : Nat) : rm_Mk l g B ⟨"RentBoard$Rule", "<init>", "()V"⟩ prog_6_method_1_code 1 2 4 [.null, .null, .null, .null, .null, .int 0, .int 0, .int 0, .int 0, .int 0] [] (rm_LRule g) 5 132 := rm_Mk_of (o := 4) (by decide +kernel) rfl rfl (fun q => Nat.le_of_ble_eq_true rfl) (fun X q hX C hi => by
  subst hX
  refine rm_aload_n (j := 0) C dc_Rule_0 0 rfl ?_
  refine rm_obj (idx := 3) C (by decide) (Nat.le_of_ble_eq_true rfl) dc_Rule_1 (rb_w1 69 rfl rfl) (rb_w1 30 rfl rfl) (rb_w1 31 rfl rfl) ?_
  refine rm_aload_n (j := 0) C dc_Rule_4 0 rfl ?_
  refine rm_bipush C dc_Rule_5 rfl ?_
  refine rm_newa (L := [.inr (4, [.null, .null, .null, .null, .null, .int 0, .int 0, .int 0, .int 0, .int 0])]) C (atype := .int) (t := 0) (N := 40) (a0 := (40, .inl fun _ => 0)) dc_Rule_7 (rb_w1 112 rfl rfl) rfl (fun _ => rfl) (by decide) rfl (Nat.le_of_ble_eq_true rfl) (Nat.le_of_ble_eq_true rfl) (Nat.le_of_ble_eq_true rfl) ?_
  refine rm_put (L := (.inr (4, [.null, .null, .null, .null, .null, .int 0, .int 0, .int 0, .int 0, .int 0]) :: ([rm_i g 0 40]))) C hi (ci := 4) (k := 0) (j := 0) (fs := [.null, .null, .null, .null, .null, .int 0, .int 0, .int 0, .int 0, .int 0]) (v := .ref (q + 1)) (by decide) dc_Rule_9 rfl rfl (Nat.le_of_ble_eq_true rfl) rfl rfl rfl ?_
  show rm_Ok X g q 1 1 40 (rm_R X g q (rm_LRule g q) 5 132) (.inr (4, [.ref (q + 1), .null, .null, .null, .null, .int 0, .int 0, .int 0, .int 0, .int 0]) :: ([rm_i g 0 40])) 12 [(0, .ref q)] []
  refine rm_aload_n (j := 0) C dc_Rule_12 0 rfl ?_
  refine rm_bipush C dc_Rule_13 rfl ?_
  refine rm_newa (L := (.inr (4, [.ref (q + 1), .null, .null, .null, .null, .int 0, .int 0, .int 0, .int 0, .int 0]) :: ([rm_i g 0 40]))) C (atype := .int) (t := 0) (N := 40) (a0 := (40, .inl fun _ => 0)) dc_Rule_15 (rb_w1 112 rfl rfl) rfl (fun _ => rfl) (by decide) rfl (Nat.le_of_ble_eq_true rfl) (Nat.le_of_ble_eq_true rfl) (Nat.le_of_ble_eq_true rfl) ?_
  refine rm_put (L := (.inr (4, [.ref (q + 1), .null, .null, .null, .null, .int 0, .int 0, .int 0, .int 0, .int 0]) :: ([rm_i g 0 40] ++ [rm_i g 0 40]))) C hi (ci := 4) (k := 1) (j := 0) (fs := [.ref (q + 1), .null, .null, .null, .null, .int 0, .int 0, .int 0, .int 0, .int 0]) (v := .ref (q + 2)) (by decide) dc_Rule_17 rfl rfl (Nat.le_of_ble_eq_true rfl) rfl rfl rfl ?_
  show rm_Ok X g q 1 2 80 (rm_R X g q (rm_LRule g q) 5 132) (.inr (4, [.ref (q + 1), .ref (q + 2), .null, .null, .null, .int 0, .int 0, .int 0, .int 0, .int 0]) :: ([rm_i g 0 40] ++ [rm_i g 0 40])) 20 [(0, .ref q)] []
  refine rm_aload_n (j := 0) C dc_Rule_20 0 rfl ?_
  refine rm_bipush C dc_Rule_21 rfl ?_
  refine rm_newa (L := (.inr (4, [.ref (q + 1), .ref (q + 2), .null, .null, .null, .int 0, .int 0, .int 0, .int 0, .int 0]) :: ([rm_i g 0 40] ++ [rm_i g 0 40]))) C (atype := .int) (t := 0) (N := 40) (a0 := (40, .inl fun _ => 0)) dc_Rule_23 (rb_w1 112 rfl rfl) rfl (fun _ => rfl) (by decide) rfl (Nat.le_of_ble_eq_true rfl) (Nat.le_of_ble_eq_true rfl) (Nat.le_of_ble_eq_true rfl) ?_
  refine rm_put (L := (.inr (4, [.ref (q + 1), .ref (q + 2), .null, .null, .null, .int 0, .int 0, .int 0, .int 0, .int 0]) :: ([rm_i g 0 40] ++ [rm_i g 0 40] ++ [rm_i g 0 40]))) C hi (ci := 4) (k := 2) (j := 0) (fs := [.ref (q + 1), .ref (q + 2), .null, .null, .null, .int 0, .int 0, .int 0, .int 0, .int 0]) (v := .ref (q + 3)) (by decide) dc_Rule_25 rfl rfl (Nat.le_of_ble_eq_true rfl) rfl rfl rfl ?_
  show rm_Ok X g q 1 3 120 (rm_R X g q (rm_LRule g q) 5 132) (.inr (4, [.ref (q + 1), .ref (q + 2), .ref (q + 3), .null, .null, .int 0, .int 0, .int 0, .int 0, .int 0]) :: ([rm_i g 0 40] ++ [rm_i g 0 40] ++ [rm_i g 0 40])) 28 [(0, .ref q)] []
  refine rm_aload_n (j := 0) C dc_Rule_28 0 rfl ?_
  refine rm_iconst C dc_Rule_29 rfl ?_
  refine rm_newa (L := (.inr (4, [.ref (q + 1), .ref (q + 2), .ref (q + 3), .null, .null, .int 0, .int 0, .int 0, .int 0, .int 0]) :: ([rm_i g 0 40] ++ [rm_i g 0 40] ++ [rm_i g 0 40]))) C (atype := .boolean) (t := 1) (N := 5) (a0 := (5, .inl fun _ => 0)) dc_Rule_30 (rb_w1 113 rfl rfl) rfl (fun _ => rfl) (by decide) rfl (Nat.le_of_ble_eq_true rfl) (Nat.le_of_ble_eq_true rfl) (Nat.le_of_ble_eq_true rfl) ?_
  refine rm_put (L := (.inr (4, [.ref (q + 1), .ref (q + 2), .ref (q + 3), .null, .null, .int 0, .int 0, .int 0, .int 0, .int 0]) :: ([rm_i g 0 40] ++ [rm_i g 0 40] ++ [rm_i g 0 40] ++ [rm_i g 1 5]))) C hi (ci := 4) (k := 3) (j := 0) (fs := [.ref (q + 1), .ref (q + 2), .ref (q + 3), .null, .null, .int 0, .int 0, .int 0, .int 0, .int 0]) (v := .ref (q + 4)) (by decide) dc_Rule_32 rfl rfl (Nat.le_of_ble_eq_true rfl) rfl rfl rfl ?_
  show rm_Ok X g q 1 4 125 (rm_R X g q (rm_LRule g q) 5 132) (.inr (4, [.ref (q + 1), .ref (q + 2), .ref (q + 3), .ref (q + 4), .null, .int 0, .int 0, .int 0, .int 0, .int 0]) :: ([rm_i g 0 40] ++ [rm_i g 0 40] ++ [rm_i g 0 40] ++ [rm_i g 1 5])) 35 [(0, .ref q)] []
  refine rm_aload_n (j := 0) C dc_Rule_35 0 rfl ?_
  refine rm_ldlen C (by decide) (Nat.le_of_ble_eq_true rfl) (Nat.le_of_ble_eq_true rfl) (Nat.le_of_ble_eq_true rfl) dc_Rule_36 dc_Rule_38 ?_
  refine rm_newa (L := (.inr (4, [.ref (q + 1), .ref (q + 2), .ref (q + 3), .ref (q + 4), .null, .int 0, .int 0, .int 0, .int 0, .int 0]) :: ([rm_i g 0 40] ++ [rm_i g 0 40] ++ [rm_i g 0 40] ++ [rm_i g 1 5]))) C (atype := .int) (t := 0) (N := 7) (a0 := (7, .inl fun _ => 0)) dc_Rule_41 (rb_w1 112 rfl rfl) rfl (fun _ => rfl) (by decide) rfl (Nat.le_of_ble_eq_true rfl) (Nat.le_of_ble_eq_true rfl) (Nat.le_of_ble_eq_true rfl) ?_
  refine rm_put (L := (.inr (4, [.ref (q + 1), .ref (q + 2), .ref (q + 3), .ref (q + 4), .null, .int 0, .int 0, .int 0, .int 0, .int 0]) :: ([rm_i g 0 40] ++ [rm_i g 0 40] ++ [rm_i g 0 40] ++ [rm_i g 1 5] ++ [rm_i g 0 7]))) C hi (ci := 4) (k := 4) (j := 0) (fs := [.ref (q + 1), .ref (q + 2), .ref (q + 3), .ref (q + 4), .null, .int 0, .int 0, .int 0, .int 0, .int 0]) (v := .ref (q + 5)) (by decide) dc_Rule_43 rfl rfl (Nat.le_of_ble_eq_true rfl) rfl rfl rfl ?_
  show rm_Ok X g q 1 5 132 (rm_R X g q (rm_LRule g q) 5 132) (.inr (4, [.ref (q + 1), .ref (q + 2), .ref (q + 3), .ref (q + 4), .ref (q + 5), .int 0, .int 0, .int 0, .int 0, .int 0]) :: ([rm_i g 0 40] ++ [rm_i g 0 40] ++ [rm_i g 0 40] ++ [rm_i g 1 5] ++ [rm_i g 0 7])) 46 [(0, .ref q)] []
  exact rm_ret C hi (Nat.le_of_ble_eq_true rfl) (Nat.le_of_ble_eq_true rfl) dc_Rule_46)
theorem dc_Lookahead_0 : decode prog_3_method_1_code 0 = .ok (.aload_n 0, 1) := by decide +kernel
theorem dc_Lookahead_1 : decode prog_3_method_1_code 1 = .ok (.invokespecial 3, 3) := by decide +kernel
theorem dc_Lookahead_4 : decode prog_3_method_1_code 4 = .ok (.aload_n 0, 1) := by decide +kernel
theorem dc_Lookahead_5 : decode prog_3_method_1_code 5 = .ok (.new 9, 3) := by decide +kernel
theorem dc_Lookahead_8 : decode prog_3_method_1_code 8 = .ok (.dup, 1) := by decide +kernel
theorem dc_Lookahead_9 : decode prog_3_method_1_code 9 = .ok (.invokespecial 11, 3) := by decide +kernel
theorem dc_Lookahead_12 : decode prog_3_method_1_code 12 = .ok (.putfield 12, 3) := by decide +kernel
theorem dc_Lookahead_15 : decode prog_3_method_1_code 15 = .ok (.aload_n 0, 1) := by decide +kernel
theorem dc_Lookahead_16 : decode prog_3_method_1_code 16 = .ok (.new 9, 3) := by decide +kernel
theorem dc_Lookahead_19 : decode prog_3_method_1_code 19 = .ok (.dup, 1) := by decide +kernel
theorem dc_Lookahead_20 : decode prog_3_method_1_code 20 = .ok (.invokespecial 11, 3) := by decide +kernel
theorem dc_Lookahead_23 : decode prog_3_method_1_code 23 = .ok (.putfield 18, 3) := by decide +kernel
theorem dc_Lookahead_26 : decode prog_3_method_1_code 26 = .ok (.return_, 1) := by decide +kernel
def rm_LLookahead (g : rb_G) (q : Nat) : List va_E := (.inr (1, [.ref (q + 1), .ref (q + 7), .int 0, .int 0]) :: (rm_LState g (q + 1) ++ rm_LState g (q + 7)))
set_option maxRecDepth 100000 in
set_option maxHeartbeats 4000000 in
theorem rm_mk_Lookahead (l : Launch) (g : rb_G) (B : Nat) : rm_Mk l g B ⟨"RentBoard$Lookahead", "<init>", "()V"⟩ prog_3_method_1_code 1 2 1 [.null, .null, .int 0, .int 0] [] (rm_LLookahead g) 12 98 := rm_Mk_of (o := 1) (by decide +kernel) rfl rfl (fun q => Nat.le_of_ble_eq_true rfl) (fun X q hX C hi => by
  subst hX
  refine rm_aload_n (j := 0) C dc_Lookahead_0 0 rfl ?_
  refine rm_obj (idx := 3) C (by decide) (Nat.le_of_ble_eq_true rfl) dc_Lookahead_1 (rb_w2 3 rfl rfl) (rb_w1 30 rfl rfl) (rb_w1 31 rfl rfl) ?_
  refine rm_aload_n (j := 0) C dc_Lookahead_4 0 rfl ?_
  refine rm_new (L := [.inr (1, [.null, .null, .int 0, .int 0])]) C (ci := 5) (fs := [.null, .null, .null, .null, .null, .int 0, .int 0, .int 0, .int 0]) (by decide) dc_Lookahead_5 (rb_w2 4 rfl rfl) (rb_w1 116 rfl rfl) (rb_w1 6 rfl rfl) (by decide) (Nat.le_of_ble_eq_true rfl) (Nat.le_of_ble_eq_true rfl) ?_
  refine rm_dup C dc_Lookahead_8 ?_
  refine rm_call (L := [.inr (1, [.null, .null, .int 0, .int 0])]) (As := []) C (rm_mk_State X.2.1 g B) rfl dc_Lookahead_9 (Or.inr ⟨"RentBoard", (rb_v2 5 rfl)⟩) (rb_w1 119 rfl rfl) (rb_w1 6 rfl rfl) (rb_w1 118 rfl rfl) ⟨by decide, by decide, by decide +kernel⟩ (by decide) (by decide) (Nat.le_of_ble_eq_true rfl) (Nat.le_of_ble_eq_true rfl) (Nat.le_of_ble_eq_true rfl) ?_
  show rm_Ok X g q 1 6 49 (rm_R X g q (rm_LLookahead g q) 12 98) (.inr (1, [.null, .null, .int 0, .int 0]) :: (rm_LState g (q + 1))) 12 [(0, .ref q)] [.ref (q + 1), .ref q]
  refine rm_put (L := (.inr (1, [.null, .null, .int 0, .int 0]) :: (rm_LState g (q + 1)))) C hi (ci := 1) (k := 0) (j := 0) (fs := [.null, .null, .int 0, .int 0]) (v := .ref (q + 1)) (by decide) dc_Lookahead_12 rfl rfl (Nat.le_of_ble_eq_true rfl) rfl rfl rfl ?_
  show rm_Ok X g q 1 6 49 (rm_R X g q (rm_LLookahead g q) 12 98) (.inr (1, [.ref (q + 1), .null, .int 0, .int 0]) :: (rm_LState g (q + 1))) 15 [(0, .ref q)] []
  refine rm_aload_n (j := 0) C dc_Lookahead_15 0 rfl ?_
  refine rm_new (L := (.inr (1, [.ref (q + 1), .null, .int 0, .int 0]) :: (rm_LState g (q + 1)))) C (ci := 5) (fs := [.null, .null, .null, .null, .null, .int 0, .int 0, .int 0, .int 0]) (by decide) dc_Lookahead_16 (rb_w2 4 rfl rfl) (rb_w1 116 rfl rfl) (rb_w1 6 rfl rfl) (by decide) (Nat.le_of_ble_eq_true rfl) (Nat.le_of_ble_eq_true rfl) ?_
  refine rm_dup C dc_Lookahead_19 ?_
  refine rm_call (L := (.inr (1, [.ref (q + 1), .null, .int 0, .int 0]) :: (rm_LState g (q + 1)))) (As := []) C (rm_mk_State X.2.1 g B) rfl dc_Lookahead_20 (Or.inr ⟨"RentBoard", (rb_v2 5 rfl)⟩) (rb_w1 119 rfl rfl) (rb_w1 6 rfl rfl) (rb_w1 118 rfl rfl) ⟨by decide, by decide, by decide +kernel⟩ (by decide) (by decide) (Nat.le_of_ble_eq_true rfl) (Nat.le_of_ble_eq_true rfl) (Nat.le_of_ble_eq_true rfl) ?_
  show rm_Ok X g q 1 12 98 (rm_R X g q (rm_LLookahead g q) 12 98) (.inr (1, [.ref (q + 1), .null, .int 0, .int 0]) :: (rm_LState g (q + 1) ++ rm_LState g (q + 7))) 23 [(0, .ref q)] [.ref (q + 7), .ref q]
  refine rm_put (L := (.inr (1, [.ref (q + 1), .null, .int 0, .int 0]) :: (rm_LState g (q + 1) ++ rm_LState g (q + 7)))) C hi (ci := 1) (k := 1) (j := 0) (fs := [.ref (q + 1), .null, .int 0, .int 0]) (v := .ref (q + 7)) (by decide) dc_Lookahead_23 rfl rfl (Nat.le_of_ble_eq_true rfl) rfl rfl rfl ?_
  show rm_Ok X g q 1 12 98 (rm_R X g q (rm_LLookahead g q) 12 98) (.inr (1, [.ref (q + 1), .ref (q + 7), .int 0, .int 0]) :: (rm_LState g (q + 1) ++ rm_LState g (q + 7))) 26 [(0, .ref q)] []
  exact rm_ret C hi (Nat.le_of_ble_eq_true rfl) (Nat.le_of_ble_eq_true rfl) dc_Lookahead_26)
