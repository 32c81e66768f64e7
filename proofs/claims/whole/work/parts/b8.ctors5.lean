theorem dc_RentBoard_0 : decode prog_1_method_1_code 0 = .ok (.aload_n 0, 1) := by decide +kernel
theorem dc_RentBoard_1 : decode prog_1_method_1_code 1 = .ok (.invokespecial 3, 3) := by decide +kernel
theorem dc_RentBoard_4 : decode prog_1_method_1_code 4 = .ok (.aload_n 0, 1) := by decide +kernel
theorem dc_RentBoard_5 : decode prog_1_method_1_code 5 = .ok (.new 9, 3) := by decide +kernel
theorem dc_RentBoard_8 : decode prog_1_method_1_code 8 = .ok (.dup, 1) := by decide +kernel
theorem dc_RentBoard_9 : decode prog_1_method_1_code 9 = .ok (.invokespecial 11, 3) := by decide +kernel
theorem dc_RentBoard_12 : decode prog_1_method_1_code 12 = .ok (.putfield 12, 3) := by decide +kernel
theorem dc_RentBoard_15 : decode prog_1_method_1_code 15 = .ok (.aload_n 0, 1) := by decide +kernel
theorem dc_RentBoard_16 : decode prog_1_method_1_code 16 = .ok (.new 16, 3) := by decide +kernel
theorem dc_RentBoard_19 : decode prog_1_method_1_code 19 = .ok (.dup, 1) := by decide +kernel
theorem dc_RentBoard_20 : decode prog_1_method_1_code 20 = .ok (.invokespecial 18, 3) := by decide +kernel
theorem dc_RentBoard_23 : decode prog_1_method_1_code 23 = .ok (.putfield 19, 3) := by decide +kernel
theorem dc_RentBoard_26 : decode prog_1_method_1_code 26 = .ok (.aload_n 0, 1) := by decide +kernel
theorem dc_RentBoard_27 : decode prog_1_method_1_code 27 = .ok (.new 23, 3) := by decide +kernel
theorem dc_RentBoard_30 : decode prog_1_method_1_code 30 = .ok (.dup, 1) := by decide +kernel
theorem dc_RentBoard_31 : decode prog_1_method_1_code 31 = .ok (.invokespecial 25, 3) := by decide +kernel
theorem dc_RentBoard_34 : decode prog_1_method_1_code 34 = .ok (.putfield 26, 3) := by decide +kernel
theorem dc_RentBoard_37 : decode prog_1_method_1_code 37 = .ok (.aload_n 0, 1) := by decide +kernel
theorem dc_RentBoard_38 : decode prog_1_method_1_code 38 = .ok (.new 23, 3) := by decide +kernel
theorem dc_RentBoard_41 : decode prog_1_method_1_code 41 = .ok (.dup, 1) := by decide +kernel
theorem dc_RentBoard_42 : decode prog_1_method_1_code 42 = .ok (.invokespecial 25, 3) := by decide +kernel
theorem dc_RentBoard_45 : decode prog_1_method_1_code 45 = .ok (.putfield 30, 3) := by decide +kernel
theorem dc_RentBoard_48 : decode prog_1_method_1_code 48 = .ok (.aload_n 0, 1) := by decide +kernel
theorem dc_RentBoard_49 : decode prog_1_method_1_code 49 = .ok (.new 33, 3) := by decide +kernel
theorem dc_RentBoard_52 : decode prog_1_method_1_code 52 = .ok (.dup, 1) := by decide +kernel
theorem dc_RentBoard_53 : decode prog_1_method_1_code 53 = .ok (.invokespecial 35, 3) := by decide +kernel
theorem dc_RentBoard_56 : decode prog_1_method_1_code 56 = .ok (.putfield 36, 3) := by decide +kernel
theorem dc_RentBoard_59 : decode prog_1_method_1_code 59 = .ok (.aload_n 0, 1) := by decide +kernel
theorem dc_RentBoard_60 : decode prog_1_method_1_code 60 = .ok (.new 33, 3) := by decide +kernel
theorem dc_RentBoard_63 : decode prog_1_method_1_code 63 = .ok (.dup, 1) := by decide +kernel
theorem dc_RentBoard_64 : decode prog_1_method_1_code 64 = .ok (.invokespecial 35, 3) := by decide +kernel
theorem dc_RentBoard_67 : decode prog_1_method_1_code 67 = .ok (.putfield 40, 3) := by decide +kernel
theorem dc_RentBoard_70 : decode prog_1_method_1_code 70 = .ok (.aload_n 0, 1) := by decide +kernel
theorem dc_RentBoard_71 : decode prog_1_method_1_code 71 = .ok (.new 33, 3) := by decide +kernel
theorem dc_RentBoard_74 : decode prog_1_method_1_code 74 = .ok (.dup, 1) := by decide +kernel
theorem dc_RentBoard_75 : decode prog_1_method_1_code 75 = .ok (.invokespecial 35, 3) := by decide +kernel
theorem dc_RentBoard_78 : decode prog_1_method_1_code 78 = .ok (.putfield 43, 3) := by decide +kernel
theorem dc_RentBoard_81 : decode prog_1_method_1_code 81 = .ok (.aload_n 0, 1) := by decide +kernel
theorem dc_RentBoard_82 : decode prog_1_method_1_code 82 = .ok (.new 46, 3) := by decide +kernel
theorem dc_RentBoard_85 : decode prog_1_method_1_code 85 = .ok (.dup, 1) := by decide +kernel
theorem dc_RentBoard_86 : decode prog_1_method_1_code 86 = .ok (.invokespecial 48, 3) := by decide +kernel
theorem dc_RentBoard_89 : decode prog_1_method_1_code 89 = .ok (.putfield 49, 3) := by decide +kernel
theorem dc_RentBoard_92 : decode prog_1_method_1_code 92 = .ok (.aload_n 0, 1) := by decide +kernel
theorem dc_RentBoard_93 : decode prog_1_method_1_code 93 = .ok (.iconst 2, 1) := by decide +kernel
theorem dc_RentBoard_94 : decode prog_1_method_1_code 94 = .ok (.anewarray 33, 3) := by decide +kernel
theorem dc_RentBoard_97 : decode prog_1_method_1_code 97 = .ok (.dup, 1) := by decide +kernel
theorem dc_RentBoard_98 : decode prog_1_method_1_code 98 = .ok (.iconst 0, 1) := by decide +kernel
theorem dc_RentBoard_99 : decode prog_1_method_1_code 99 = .ok (.new 33, 3) := by decide +kernel
theorem dc_RentBoard_102 : decode prog_1_method_1_code 102 = .ok (.dup, 1) := by decide +kernel
theorem dc_RentBoard_103 : decode prog_1_method_1_code 103 = .ok (.invokespecial 35, 3) := by decide +kernel
theorem dc_RentBoard_106 : decode prog_1_method_1_code 106 = .ok (.aastore, 1) := by decide +kernel
theorem dc_RentBoard_107 : decode prog_1_method_1_code 107 = .ok (.dup, 1) := by decide +kernel
theorem dc_RentBoard_108 : decode prog_1_method_1_code 108 = .ok (.iconst 1, 1) := by decide +kernel
theorem dc_RentBoard_109 : decode prog_1_method_1_code 109 = .ok (.new 33, 3) := by decide +kernel
theorem dc_RentBoard_112 : decode prog_1_method_1_code 112 = .ok (.dup, 1) := by decide +kernel
theorem dc_RentBoard_113 : decode prog_1_method_1_code 113 = .ok (.invokespecial 35, 3) := by decide +kernel
theorem dc_RentBoard_116 : decode prog_1_method_1_code 116 = .ok (.aastore, 1) := by decide +kernel
theorem dc_RentBoard_117 : decode prog_1_method_1_code 117 = .ok (.putfield 53, 3) := by decide +kernel
theorem dc_RentBoard_120 : decode prog_1_method_1_code 120 = .ok (.aload_n 0, 1) := by decide +kernel
theorem dc_RentBoard_121 : decode prog_1_method_1_code 121 = .ok (.iconst 2, 1) := by decide +kernel
theorem dc_RentBoard_122 : decode prog_1_method_1_code 122 = .ok (.newarray .boolean, 2) := by decide +kernel
theorem dc_RentBoard_124 : decode prog_1_method_1_code 124 = .ok (.putfield 57, 3) := by decide +kernel
theorem dc_RentBoard_127 : decode prog_1_method_1_code 127 = .ok (.aload_n 0, 1) := by decide +kernel
theorem dc_RentBoard_128 : decode prog_1_method_1_code 128 = .ok (.new 61, 3) := by decide +kernel
theorem dc_RentBoard_131 : decode prog_1_method_1_code 131 = .ok (.dup, 1) := by decide +kernel
theorem dc_RentBoard_132 : decode prog_1_method_1_code 132 = .ok (.bipush 12, 2) := by decide +kernel
theorem dc_RentBoard_134 : decode prog_1_method_1_code 134 = .ok (.invokespecial 63, 3) := by decide +kernel
theorem dc_RentBoard_137 : decode prog_1_method_1_code 137 = .ok (.putfield 66, 3) := by decide +kernel
theorem dc_RentBoard_140 : decode prog_1_method_1_code 140 = .ok (.aload_n 0, 1) := by decide +kernel
theorem dc_RentBoard_141 : decode prog_1_method_1_code 141 = .ok (.new 61, 3) := by decide +kernel
theorem dc_RentBoard_144 : decode prog_1_method_1_code 144 = .ok (.dup, 1) := by decide +kernel
theorem dc_RentBoard_145 : decode prog_1_method_1_code 145 = .ok (.bipush 10, 2) := by decide +kernel
theorem dc_RentBoard_147 : decode prog_1_method_1_code 147 = .ok (.invokespecial 63, 3) := by decide +kernel
theorem dc_RentBoard_150 : decode prog_1_method_1_code 150 = .ok (.putfield 70, 3) := by decide +kernel
theorem dc_RentBoard_153 : decode prog_1_method_1_code 153 = .ok (.aload_n 0, 1) := by decide +kernel
theorem dc_RentBoard_154 : decode prog_1_method_1_code 154 = .ok (.new 73, 3) := by decide +kernel
theorem dc_RentBoard_157 : decode prog_1_method_1_code 157 = .ok (.dup, 1) := by decide +kernel
theorem dc_RentBoard_158 : decode prog_1_method_1_code 158 = .ok (.invokespecial 75, 3) := by decide +kernel
theorem dc_RentBoard_161 : decode prog_1_method_1_code 161 = .ok (.putfield 76, 3) := by decide +kernel
theorem dc_RentBoard_164 : decode prog_1_method_1_code 164 = .ok (.aload_n 0, 1) := by decide +kernel
theorem dc_RentBoard_165 : decode prog_1_method_1_code 165 = .ok (.new 80, 3) := by decide +kernel
theorem dc_RentBoard_168 : decode prog_1_method_1_code 168 = .ok (.dup, 1) := by decide +kernel
theorem dc_RentBoard_169 : decode prog_1_method_1_code 169 = .ok (.invokespecial 82, 3) := by decide +kernel
theorem dc_RentBoard_172 : decode prog_1_method_1_code 172 = .ok (.putfield 83, 3) := by decide +kernel
theorem dc_RentBoard_175 : decode prog_1_method_1_code 175 = .ok (.aload_n 0, 1) := by decide +kernel
theorem dc_RentBoard_176 : decode prog_1_method_1_code 176 = .ok (.sipush 361, 3) := by decide +kernel
theorem dc_RentBoard_179 : decode prog_1_method_1_code 179 = .ok (.newarray .boolean, 2) := by decide +kernel
theorem dc_RentBoard_181 : decode prog_1_method_1_code 181 = .ok (.putfield 87, 3) := by decide +kernel
theorem dc_RentBoard_184 : decode prog_1_method_1_code 184 = .ok (.return_, 1) := by decide +kernel
def rm_LRentBoard (g : rb_G) (q : Nat) : List va_E := (.inr (8, [.ref (q + 1), .ref (q + 3), .ref (q + 5), .ref (q + 11), .ref (q + 17), .ref (q + 23), .ref (q + 29), .ref (q + 35), .ref (q + 109), .ref (q + 122), .ref (q + 123), .ref (q + 126), .ref (q + 129), .ref (q + 149), .ref (q + 162)]) :: ([] ++ rm_LText g (q + 1) ++ rm_LRow g (q + 3) ++ rm_LRule g (q + 5) ++ rm_LRule g (q + 11) ++ rm_LState g (q + 17) ++ rm_LState g (q + 23) ++ rm_LState g (q + 29) ++ rm_LPast g (q + 35) ++ [rm_refs g 2 (va_up (va_up (fun _ => none) 0 (some (q + 110))) 1 (some (q + 116)))] ++ (rm_LState g (q + 110) ++ rm_LState g (q + 116)) ++ [rm_i g 1 2] ++ rm_LFacts g 12 (q + 123) ++ rm_LFacts g 10 (q + 126) ++ rm_LWalk g (q + 129) ++ rm_LLookahead g (q + 149) ++ [rm_i g 1 361]))
set_option maxRecDepth 100000 in
set_option maxHeartbeats 4000000 in
theorem sg_RentBoard_4 {X : rb_X} {g : rb_G} {B q : Nat} {Q : State → Prop} {M : List va_E} (C : rm_Cx X g B q 8 prog_1_method_1_code 1 3 162 2210) (hi : rm_in X) (hM : M.length = 0) (k : rm_Ok X g q 1 2 82 Q (.inr (8, [.ref (q + 1), .null, .null, .null, .null, .null, .null, .null, .null, .null, .null, .null, .null, .null, .null]) :: (M ++ rm_LText g (q + 1))) 15 [(0, .ref q)] []) : rm_Ok X g q 1 0 0 Q (.inr (8, [.null, .null, .null, .null, .null, .null, .null, .null, .null, .null, .null, .null, .null, .null, .null]) :: M) 4 [(0, .ref q)] [] := by
  have h1 : ∀ x : va_E, (x :: M).length = 1 := fun x => by rw [List.length_cons, hM]
  refine rm_aload_n (j := 0) C dc_RentBoard_4 0 rfl ?_
  refine rm_new (L := (.inr (8, [.null, .null, .null, .null, .null, .null, .null, .null, .null, .null, .null, .null, .null, .null, .null]) :: M)) C (ci := 6) (fs := [.null, .int 0]) (by decide) dc_RentBoard_5 (rb_w1 32 rfl rfl) (rb_w1 33 rfl rfl) (rb_w1 2 rfl rfl) (by decide) (Nat.le_of_ble_eq_true rfl) (Nat.le_of_ble_eq_true rfl) ?_
  refine rm_dup C dc_RentBoard_8 ?_
  refine rm_call (L := (.inr (8, [.null, .null, .null, .null, .null, .null, .null, .null, .null, .null, .null, .null, .null, .null, .null]) :: M)) (As := []) C (rm_mk_Text X.2.1 g B) rfl dc_RentBoard_9 (Or.inr ⟨"RentBoard", (rb_v1 34 rfl)⟩) (rb_w1 36 rfl rfl) (rb_w1 2 rfl rfl) (rb_w1 35 rfl rfl) ⟨by decide, by decide, by decide +kernel⟩ (by decide) (by decide) (Nat.le_of_ble_eq_true rfl) (Nat.le_of_ble_eq_true rfl) (Nat.le_of_ble_eq_true rfl) ?_
  rw [h1]
  show rm_Ok X g q 1 2 82 Q (.inr (8, [.null, .null, .null, .null, .null, .null, .null, .null, .null, .null, .null, .null, .null, .null, .null]) :: (M ++ rm_LText g (q + 1))) 12 [(0, .ref q)] [.ref (q + 1), .ref q]
  refine rm_put (L := (.inr (8, [.null, .null, .null, .null, .null, .null, .null, .null, .null, .null, .null, .null, .null, .null, .null]) :: (M ++ rm_LText g (q + 1)))) C hi (ci := 8) (k := 0) (j := 0) (fs := [.null, .null, .null, .null, .null, .null, .null, .null, .null, .null, .null, .null, .null, .null, .null]) (v := .ref (q + 1)) (by decide) dc_RentBoard_12 rfl rfl (Nat.le_of_ble_eq_true rfl) rfl rfl rfl ?_
  exact k
set_option maxRecDepth 100000 in
set_option maxHeartbeats 4000000 in
theorem sg_RentBoard_15 {X : rb_X} {g : rb_G} {B q : Nat} {Q : State → Prop} {M : List va_E} (C : rm_Cx X g B q 8 prog_1_method_1_code 1 3 162 2210) (hi : rm_in X) (hM : M.length = 2) (k : rm_Ok X g q 1 4 109 Q (.inr (8, [.ref (q + 1), .ref (q + 3), .null, .null, .null, .null, .null, .null, .null, .null, .null, .null, .null, .null, .null]) :: (M ++ rm_LRow g (q + 3))) 26 [(0, .ref q)] []) : rm_Ok X g q 1 2 82 Q (.inr (8, [.ref (q + 1), .null, .null, .null, .null, .null, .null, .null, .null, .null, .null, .null, .null, .null, .null]) :: M) 15 [(0, .ref q)] [] := by
  have h1 : ∀ x : va_E, (x :: M).length = 3 := fun x => by rw [List.length_cons, hM]
  refine rm_aload_n (j := 0) C dc_RentBoard_15 0 rfl ?_
  refine rm_new (L := (.inr (8, [.ref (q + 1), .null, .null, .null, .null, .null, .null, .null, .null, .null, .null, .null, .null, .null, .null]) :: M)) C (ci := 3) (fs := [.null, .int 0]) (by decide) dc_RentBoard_16 (rb_w1 48 rfl rfl) (rb_w1 49 rfl rfl) (rb_w1 3 rfl rfl) (by decide) (Nat.le_of_ble_eq_true rfl) (Nat.le_of_ble_eq_true rfl) ?_
  refine rm_dup C dc_RentBoard_19 ?_
  refine rm_call (L := (.inr (8, [.ref (q + 1), .null, .null, .null, .null, .null, .null, .null, .null, .null, .null, .null, .null, .null, .null]) :: M)) (As := []) C (rm_mk_Row X.2.1 g B) rfl dc_RentBoard_20 (Or.inr ⟨"RentBoard", (rb_v1 50 rfl)⟩) (rb_w1 52 rfl rfl) (rb_w1 3 rfl rfl) (rb_w1 51 rfl rfl) ⟨by decide, by decide, by decide +kernel⟩ (by decide) (by decide) (Nat.le_of_ble_eq_true rfl) (Nat.le_of_ble_eq_true rfl) (Nat.le_of_ble_eq_true rfl) ?_
  rw [h1]
  show rm_Ok X g q 1 4 109 Q (.inr (8, [.ref (q + 1), .null, .null, .null, .null, .null, .null, .null, .null, .null, .null, .null, .null, .null, .null]) :: (M ++ rm_LRow g (q + 3))) 23 [(0, .ref q)] [.ref (q + 3), .ref q]
  refine rm_put (L := (.inr (8, [.ref (q + 1), .null, .null, .null, .null, .null, .null, .null, .null, .null, .null, .null, .null, .null, .null]) :: (M ++ rm_LRow g (q + 3)))) C hi (ci := 8) (k := 1) (j := 0) (fs := [.ref (q + 1), .null, .null, .null, .null, .null, .null, .null, .null, .null, .null, .null, .null, .null, .null]) (v := .ref (q + 3)) (by decide) dc_RentBoard_23 rfl rfl (Nat.le_of_ble_eq_true rfl) rfl rfl rfl ?_
  exact k
set_option maxRecDepth 100000 in
set_option maxHeartbeats 4000000 in
theorem sg_RentBoard_26 {X : rb_X} {g : rb_G} {B q : Nat} {Q : State → Prop} {M : List va_E} (C : rm_Cx X g B q 8 prog_1_method_1_code 1 3 162 2210) (hi : rm_in X) (hM : M.length = 4) (k : rm_Ok X g q 1 10 251 Q (.inr (8, [.ref (q + 1), .ref (q + 3), .ref (q + 5), .null, .null, .null, .null, .null, .null, .null, .null, .null, .null, .null, .null]) :: (M ++ rm_LRule g (q + 5))) 37 [(0, .ref q)] []) : rm_Ok X g q 1 4 109 Q (.inr (8, [.ref (q + 1), .ref (q + 3), .null, .null, .null, .null, .null, .null, .null, .null, .null, .null, .null, .null, .null]) :: M) 26 [(0, .ref q)] [] := by
  have h1 : ∀ x : va_E, (x :: M).length = 5 := fun x => by rw [List.length_cons, hM]
  refine rm_aload_n (j := 0) C dc_RentBoard_26 0 rfl ?_
  refine rm_new (L := (.inr (8, [.ref (q + 1), .ref (q + 3), .null, .null, .null, .null, .null, .null, .null, .null, .null, .null, .null, .null, .null]) :: M)) C (ci := 4) (fs := [.null, .null, .null, .null, .null, .int 0, .int 0, .int 0, .int 0, .int 0]) (by decide) dc_RentBoard_27 (rb_w1 64 rfl rfl) (rb_w1 65 rfl rfl) (rb_w1 4 rfl rfl) (by decide) (Nat.le_of_ble_eq_true rfl) (Nat.le_of_ble_eq_true rfl) ?_
  refine rm_dup C dc_RentBoard_30 ?_
  refine rm_call (L := (.inr (8, [.ref (q + 1), .ref (q + 3), .null, .null, .null, .null, .null, .null, .null, .null, .null, .null, .null, .null, .null]) :: M)) (As := []) C (rm_mk_Rule X.2.1 g B) rfl dc_RentBoard_31 (Or.inr ⟨"RentBoard", (rb_v1 66 rfl)⟩) (rb_w1 68 rfl rfl) (rb_w1 4 rfl rfl) (rb_w1 67 rfl rfl) ⟨by decide, by decide, by decide +kernel⟩ (by decide) (by decide) (Nat.le_of_ble_eq_true rfl) (Nat.le_of_ble_eq_true rfl) (Nat.le_of_ble_eq_true rfl) ?_
  rw [h1]
  show rm_Ok X g q 1 10 251 Q (.inr (8, [.ref (q + 1), .ref (q + 3), .null, .null, .null, .null, .null, .null, .null, .null, .null, .null, .null, .null, .null]) :: (M ++ rm_LRule g (q + 5))) 34 [(0, .ref q)] [.ref (q + 5), .ref q]
  refine rm_put (L := (.inr (8, [.ref (q + 1), .ref (q + 3), .null, .null, .null, .null, .null, .null, .null, .null, .null, .null, .null, .null, .null]) :: (M ++ rm_LRule g (q + 5)))) C hi (ci := 8) (k := 2) (j := 0) (fs := [.ref (q + 1), .ref (q + 3), .null, .null, .null, .null, .null, .null, .null, .null, .null, .null, .null, .null, .null]) (v := .ref (q + 5)) (by decide) dc_RentBoard_34 rfl rfl (Nat.le_of_ble_eq_true rfl) rfl rfl rfl ?_
  exact k
set_option maxRecDepth 100000 in
set_option maxHeartbeats 4000000 in
theorem sg_RentBoard_37 {X : rb_X} {g : rb_G} {B q : Nat} {Q : State → Prop} {M : List va_E} (C : rm_Cx X g B q 8 prog_1_method_1_code 1 3 162 2210) (hi : rm_in X) (hM : M.length = 10) (k : rm_Ok X g q 1 16 393 Q (.inr (8, [.ref (q + 1), .ref (q + 3), .ref (q + 5), .ref (q + 11), .null, .null, .null, .null, .null, .null, .null, .null, .null, .null, .null]) :: (M ++ rm_LRule g (q + 11))) 48 [(0, .ref q)] []) : rm_Ok X g q 1 10 251 Q (.inr (8, [.ref (q + 1), .ref (q + 3), .ref (q + 5), .null, .null, .null, .null, .null, .null, .null, .null, .null, .null, .null, .null]) :: M) 37 [(0, .ref q)] [] := by
  have h1 : ∀ x : va_E, (x :: M).length = 11 := fun x => by rw [List.length_cons, hM]
  refine rm_aload_n (j := 0) C dc_RentBoard_37 0 rfl ?_
  refine rm_new (L := (.inr (8, [.ref (q + 1), .ref (q + 3), .ref (q + 5), .null, .null, .null, .null, .null, .null, .null, .null, .null, .null, .null, .null]) :: M)) C (ci := 4) (fs := [.null, .null, .null, .null, .null, .int 0, .int 0, .int 0, .int 0, .int 0]) (by decide) dc_RentBoard_38 (rb_w1 64 rfl rfl) (rb_w1 65 rfl rfl) (rb_w1 4 rfl rfl) (by decide) (Nat.le_of_ble_eq_true rfl) (Nat.le_of_ble_eq_true rfl) ?_
  refine rm_dup C dc_RentBoard_41 ?_
  refine rm_call (L := (.inr (8, [.ref (q + 1), .ref (q + 3), .ref (q + 5), .null, .null, .null, .null, .null, .null, .null, .null, .null, .null, .null, .null]) :: M)) (As := []) C (rm_mk_Rule X.2.1 g B) rfl dc_RentBoard_42 (Or.inr ⟨"RentBoard", (rb_v1 66 rfl)⟩) (rb_w1 68 rfl rfl) (rb_w1 4 rfl rfl) (rb_w1 67 rfl rfl) ⟨by decide, by decide, by decide +kernel⟩ (by decide) (by decide) (Nat.le_of_ble_eq_true rfl) (Nat.le_of_ble_eq_true rfl) (Nat.le_of_ble_eq_true rfl) ?_
  rw [h1]
  show rm_Ok X g q 1 16 393 Q (.inr (8, [.ref (q + 1), .ref (q + 3), .ref (q + 5), .null, .null, .null, .null, .null, .null, .null, .null, .null, .null, .null, .null]) :: (M ++ rm_LRule g (q + 11))) 45 [(0, .ref q)] [.ref (q + 11), .ref q]
  refine rm_put (L := (.inr (8, [.ref (q + 1), .ref (q + 3), .ref (q + 5), .null, .null, .null, .null, .null, .null, .null, .null, .null, .null, .null, .null]) :: (M ++ rm_LRule g (q + 11)))) C hi (ci := 8) (k := 3) (j := 0) (fs := [.ref (q + 1), .ref (q + 3), .ref (q + 5), .null, .null, .null, .null, .null, .null, .null, .null, .null, .null, .null, .null]) (v := .ref (q + 11)) (by decide) dc_RentBoard_45 rfl rfl (Nat.le_of_ble_eq_true rfl) rfl rfl rfl ?_
  exact k
set_option maxRecDepth 100000 in
set_option maxHeartbeats 4000000 in
theorem sg_RentBoard_48 {X : rb_X} {g : rb_G} {B q : Nat} {Q : State → Prop} {M : List va_E} (C : rm_Cx X g B q 8 prog_1_method_1_code 1 3 162 2210) (hi : rm_in X) (hM : M.length = 16) (k : rm_Ok X g q 1 22 442 Q (.inr (8, [.ref (q + 1), .ref (q + 3), .ref (q + 5), .ref (q + 11), .ref (q + 17), .null, .null, .null, .null, .null, .null, .null, .null, .null, .null]) :: (M ++ rm_LState g (q + 17))) 59 [(0, .ref q)] []) : rm_Ok X g q 1 16 393 Q (.inr (8, [.ref (q + 1), .ref (q + 3), .ref (q + 5), .ref (q + 11), .null, .null, .null, .null, .null, .null, .null, .null, .null, .null, .null]) :: M) 48 [(0, .ref q)] [] := by
  have h1 : ∀ x : va_E, (x :: M).length = 17 := fun x => by rw [List.length_cons, hM]
  refine rm_aload_n (j := 0) C dc_RentBoard_48 0 rfl ?_
  refine rm_new (L := (.inr (8, [.ref (q + 1), .ref (q + 3), .ref (q + 5), .ref (q + 11), .null, .null, .null, .null, .null, .null, .null, .null, .null, .null, .null]) :: M)) C (ci := 5) (fs := [.null, .null, .null, .null, .null, .int 0, .int 0, .int 0, .int 0]) (by decide) dc_RentBoard_49 (rb_w1 115 rfl rfl) (rb_w1 116 rfl rfl) (rb_w1 6 rfl rfl) (by decide) (Nat.le_of_ble_eq_true rfl) (Nat.le_of_ble_eq_true rfl) ?_
  refine rm_dup C dc_RentBoard_52 ?_
  refine rm_call (L := (.inr (8, [.ref (q + 1), .ref (q + 3), .ref (q + 5), .ref (q + 11), .null, .null, .null, .null, .null, .null, .null, .null, .null, .null, .null]) :: M)) (As := []) C (rm_mk_State X.2.1 g B) rfl dc_RentBoard_53 (Or.inr ⟨"RentBoard", (rb_v1 117 rfl)⟩) (rb_w1 119 rfl rfl) (rb_w1 6 rfl rfl) (rb_w1 118 rfl rfl) ⟨by decide, by decide, by decide +kernel⟩ (by decide) (by decide) (Nat.le_of_ble_eq_true rfl) (Nat.le_of_ble_eq_true rfl) (Nat.le_of_ble_eq_true rfl) ?_
  rw [h1]
  show rm_Ok X g q 1 22 442 Q (.inr (8, [.ref (q + 1), .ref (q + 3), .ref (q + 5), .ref (q + 11), .null, .null, .null, .null, .null, .null, .null, .null, .null, .null, .null]) :: (M ++ rm_LState g (q + 17))) 56 [(0, .ref q)] [.ref (q + 17), .ref q]
  refine rm_put (L := (.inr (8, [.ref (q + 1), .ref (q + 3), .ref (q + 5), .ref (q + 11), .null, .null, .null, .null, .null, .null, .null, .null, .null, .null, .null]) :: (M ++ rm_LState g (q + 17)))) C hi (ci := 8) (k := 4) (j := 0) (fs := [.ref (q + 1), .ref (q + 3), .ref (q + 5), .ref (q + 11), .null, .null, .null, .null, .null, .null, .null, .null, .null, .null, .null]) (v := .ref (q + 17)) (by decide) dc_RentBoard_56 rfl rfl (Nat.le_of_ble_eq_true rfl) rfl rfl rfl ?_
  exact k
set_option maxRecDepth 100000 in
set_option maxHeartbeats 4000000 in
theorem sg_RentBoard_59 {X : rb_X} {g : rb_G} {B q : Nat} {Q : State → Prop} {M : List va_E} (C : rm_Cx X g B q 8 prog_1_method_1_code 1 3 162 2210) (hi : rm_in X) (hM : M.length = 22) (k : rm_Ok X g q 1 28 491 Q (.inr (8, [.ref (q + 1), .ref (q + 3), .ref (q + 5), .ref (q + 11), .ref (q + 17), .ref (q + 23), .null, .null, .null, .null, .null, .null, .null, .null, .null]) :: (M ++ rm_LState g (q + 23))) 70 [(0, .ref q)] []) : rm_Ok X g q 1 22 442 Q (.inr (8, [.ref (q + 1), .ref (q + 3), .ref (q + 5), .ref (q + 11), .ref (q + 17), .null, .null, .null, .null, .null, .null, .null, .null, .null, .null]) :: M) 59 [(0, .ref q)] [] := by
  have h1 : ∀ x : va_E, (x :: M).length = 23 := fun x => by rw [List.length_cons, hM]
  refine rm_aload_n (j := 0) C dc_RentBoard_59 0 rfl ?_
  refine rm_new (L := (.inr (8, [.ref (q + 1), .ref (q + 3), .ref (q + 5), .ref (q + 11), .ref (q + 17), .null, .null, .null, .null, .null, .null, .null, .null, .null, .null]) :: M)) C (ci := 5) (fs := [.null, .null, .null, .null, .null, .int 0, .int 0, .int 0, .int 0]) (by decide) dc_RentBoard_60 (rb_w1 115 rfl rfl) (rb_w1 116 rfl rfl) (rb_w1 6 rfl rfl) (by decide) (Nat.le_of_ble_eq_true rfl) (Nat.le_of_ble_eq_true rfl) ?_
  refine rm_dup C dc_RentBoard_63 ?_
  refine rm_call (L := (.inr (8, [.ref (q + 1), .ref (q + 3), .ref (q + 5), .ref (q + 11), .ref (q + 17), .null, .null, .null, .null, .null, .null, .null, .null, .null, .null]) :: M)) (As := []) C (rm_mk_State X.2.1 g B) rfl dc_RentBoard_64 (Or.inr ⟨"RentBoard", (rb_v1 117 rfl)⟩) (rb_w1 119 rfl rfl) (rb_w1 6 rfl rfl) (rb_w1 118 rfl rfl) ⟨by decide, by decide, by decide +kernel⟩ (by decide) (by decide) (Nat.le_of_ble_eq_true rfl) (Nat.le_of_ble_eq_true rfl) (Nat.le_of_ble_eq_true rfl) ?_
  rw [h1]
  show rm_Ok X g q 1 28 491 Q (.inr (8, [.ref (q + 1), .ref (q + 3), .ref (q + 5), .ref (q + 11), .ref (q + 17), .null, .null, .null, .null, .null, .null, .null, .null, .null, .null]) :: (M ++ rm_LState g (q + 23))) 67 [(0, .ref q)] [.ref (q + 23), .ref q]
  refine rm_put (L := (.inr (8, [.ref (q + 1), .ref (q + 3), .ref (q + 5), .ref (q + 11), .ref (q + 17), .null, .null, .null, .null, .null, .null, .null, .null, .null, .null]) :: (M ++ rm_LState g (q + 23)))) C hi (ci := 8) (k := 5) (j := 0) (fs := [.ref (q + 1), .ref (q + 3), .ref (q + 5), .ref (q + 11), .ref (q + 17), .null, .null, .null, .null, .null, .null, .null, .null, .null, .null]) (v := .ref (q + 23)) (by decide) dc_RentBoard_67 rfl rfl (Nat.le_of_ble_eq_true rfl) rfl rfl rfl ?_
  exact k
set_option maxRecDepth 100000 in
set_option maxHeartbeats 4000000 in
theorem sg_RentBoard_70 {X : rb_X} {g : rb_G} {B q : Nat} {Q : State → Prop} {M : List va_E} (C : rm_Cx X g B q 8 prog_1_method_1_code 1 3 162 2210) (hi : rm_in X) (hM : M.length = 28) (k : rm_Ok X g q 1 34 540 Q (.inr (8, [.ref (q + 1), .ref (q + 3), .ref (q + 5), .ref (q + 11), .ref (q + 17), .ref (q + 23), .ref (q + 29), .null, .null, .null, .null, .null, .null, .null, .null]) :: (M ++ rm_LState g (q + 29))) 81 [(0, .ref q)] []) : rm_Ok X g q 1 28 491 Q (.inr (8, [.ref (q + 1), .ref (q + 3), .ref (q + 5), .ref (q + 11), .ref (q + 17), .ref (q + 23), .null, .null, .null, .null, .null, .null, .null, .null, .null]) :: M) 70 [(0, .ref q)] [] := by
  have h1 : ∀ x : va_E, (x :: M).length = 29 := fun x => by rw [List.length_cons, hM]
  refine rm_aload_n (j := 0) C dc_RentBoard_70 0 rfl ?_
  refine rm_new (L := (.inr (8, [.ref (q + 1), .ref (q + 3), .ref (q + 5), .ref (q + 11), .ref (q + 17), .ref (q + 23), .null, .null, .null, .null, .null, .null, .null, .null, .null]) :: M)) C (ci := 5) (fs := [.null, .null, .null, .null, .null, .int 0, .int 0, .int 0, .int 0]) (by decide) dc_RentBoard_71 (rb_w1 115 rfl rfl) (rb_w1 116 rfl rfl) (rb_w1 6 rfl rfl) (by decide) (Nat.le_of_ble_eq_true rfl) (Nat.le_of_ble_eq_true rfl) ?_
  refine rm_dup C dc_RentBoard_74 ?_
  refine rm_call (L := (.inr (8, [.ref (q + 1), .ref (q + 3), .ref (q + 5), .ref (q + 11), .ref (q + 17), .ref (q + 23), .null, .null, .null, .null, .null, .null, .null, .null, .null]) :: M)) (As := []) C (rm_mk_State X.2.1 g B) rfl dc_RentBoard_75 (Or.inr ⟨"RentBoard", (rb_v1 117 rfl)⟩) (rb_w1 119 rfl rfl) (rb_w1 6 rfl rfl) (rb_w1 118 rfl rfl) ⟨by decide, by decide, by decide +kernel⟩ (by decide) (by decide) (Nat.le_of_ble_eq_true rfl) (Nat.le_of_ble_eq_true rfl) (Nat.le_of_ble_eq_true rfl) ?_
  rw [h1]
  show rm_Ok X g q 1 34 540 Q (.inr (8, [.ref (q + 1), .ref (q + 3), .ref (q + 5), .ref (q + 11), .ref (q + 17), .ref (q + 23), .null, .null, .null, .null, .null, .null, .null, .null, .null]) :: (M ++ rm_LState g (q + 29))) 78 [(0, .ref q)] [.ref (q + 29), .ref q]
  refine rm_put (L := (.inr (8, [.ref (q + 1), .ref (q + 3), .ref (q + 5), .ref (q + 11), .ref (q + 17), .ref (q + 23), .null, .null, .null, .null, .null, .null, .null, .null, .null]) :: (M ++ rm_LState g (q + 29)))) C hi (ci := 8) (k := 6) (j := 0) (fs := [.ref (q + 1), .ref (q + 3), .ref (q + 5), .ref (q + 11), .ref (q + 17), .ref (q + 23), .null, .null, .null, .null, .null, .null, .null, .null, .null]) (v := .ref (q + 29)) (by decide) dc_RentBoard_78 rfl rfl (Nat.le_of_ble_eq_true rfl) rfl rfl rfl ?_
  exact k
set_option maxRecDepth 100000 in
set_option maxHeartbeats 4000000 in
theorem sg_RentBoard_81 {X : rb_X} {g : rb_G} {B q : Nat} {Q : State → Prop} {M : List va_E} (C : rm_Cx X g B q 8 prog_1_method_1_code 1 3 162 2210) (hi : rm_in X) (hM : M.length = 34) (k : rm_Ok X g q 1 108 1143 Q (.inr (8, [.ref (q + 1), .ref (q + 3), .ref (q + 5), .ref (q + 11), .ref (q + 17), .ref (q + 23), .ref (q + 29), .ref (q + 35), .null, .null, .null, .null, .null, .null, .null]) :: (M ++ rm_LPast g (q + 35))) 92 [(0, .ref q)] []) : rm_Ok X g q 1 34 540 Q (.inr (8, [.ref (q + 1), .ref (q + 3), .ref (q + 5), .ref (q + 11), .ref (q + 17), .ref (q + 23), .ref (q + 29), .null, .null, .null, .null, .null, .null, .null, .null]) :: M) 81 [(0, .ref q)] [] := by
  have h1 : ∀ x : va_E, (x :: M).length = 35 := fun x => by rw [List.length_cons, hM]
  refine rm_aload_n (j := 0) C dc_RentBoard_81 0 rfl ?_
  refine rm_new (L := (.inr (8, [.ref (q + 1), .ref (q + 3), .ref (q + 5), .ref (q + 11), .ref (q + 17), .ref (q + 23), .ref (q + 29), .null, .null, .null, .null, .null, .null, .null, .null]) :: M)) C (ci := 2) (fs := [.null, .int 0, .int 0]) (by decide) dc_RentBoard_82 (rb_w1 163 rfl rfl) (rb_w1 164 rfl rfl) (rb_w1 7 rfl rfl) (by decide) (Nat.le_of_ble_eq_true rfl) (Nat.le_of_ble_eq_true rfl) ?_
  refine rm_dup C dc_RentBoard_85 ?_
  refine rm_call (L := (.inr (8, [.ref (q + 1), .ref (q + 3), .ref (q + 5), .ref (q + 11), .ref (q + 17), .ref (q + 23), .ref (q + 29), .null, .null, .null, .null, .null, .null, .null, .null]) :: M)) (As := []) C (rm_mk_Past X.2.1 g B) rfl dc_RentBoard_86 (Or.inl (rb_w1 165 rfl rfl)) (rb_w1 167 rfl rfl) (rb_w1 7 rfl rfl) (rb_w1 166 rfl rfl) ⟨by decide, by decide, by decide +kernel⟩ (by decide) (by decide) (Nat.le_of_ble_eq_true rfl) (Nat.le_of_ble_eq_true rfl) (Nat.le_of_ble_eq_true rfl) ?_
  rw [h1]
  show rm_Ok X g q 1 108 1143 Q (.inr (8, [.ref (q + 1), .ref (q + 3), .ref (q + 5), .ref (q + 11), .ref (q + 17), .ref (q + 23), .ref (q + 29), .null, .null, .null, .null, .null, .null, .null, .null]) :: (M ++ rm_LPast g (q + 35))) 89 [(0, .ref q)] [.ref (q + 35), .ref q]
  refine rm_put (L := (.inr (8, [.ref (q + 1), .ref (q + 3), .ref (q + 5), .ref (q + 11), .ref (q + 17), .ref (q + 23), .ref (q + 29), .null, .null, .null, .null, .null, .null, .null, .null]) :: (M ++ rm_LPast g (q + 35)))) C hi (ci := 8) (k := 7) (j := 0) (fs := [.ref (q + 1), .ref (q + 3), .ref (q + 5), .ref (q + 11), .ref (q + 17), .ref (q + 23), .ref (q + 29), .null, .null, .null, .null, .null, .null, .null, .null]) (v := .ref (q + 35)) (by decide) dc_RentBoard_89 rfl rfl (Nat.le_of_ble_eq_true rfl) rfl rfl rfl ?_
  exact k
set_option maxRecDepth 100000 in
set_option maxHeartbeats 4000000 in
theorem sg_RentBoard_92 {X : rb_X} {g : rb_G} {B q : Nat} {Q : State → Prop} {M : List va_E} (C : rm_Cx X g B q 8 prog_1_method_1_code 1 3 162 2210) (hi : rm_in X) (hM : M.length = 108) (k : rm_Ok X g q 1 121 1243 Q (.inr (8, [.ref (q + 1), .ref (q + 3), .ref (q + 5), .ref (q + 11), .ref (q + 17), .ref (q + 23), .ref (q + 29), .ref (q + 35), .ref (q + 109), .null, .null, .null, .null, .null, .null]) :: (M ++ [rm_refs g 2 (va_up (va_up (fun _ => none) 0 (some (q + 110))) 1 (some (q + 116)))] ++ (rm_LState g (q + 110) ++ rm_LState g (q + 116)))) 120 [(0, .ref q)] []) : rm_Ok X g q 1 108 1143 Q (.inr (8, [.ref (q + 1), .ref (q + 3), .ref (q + 5), .ref (q + 11), .ref (q + 17), .ref (q + 23), .ref (q + 29), .ref (q + 35), .null, .null, .null, .null, .null, .null, .null]) :: M) 92 [(0, .ref q)] [] := by
  have h1 : ∀ x : va_E, (x :: M).length = 109 := fun x => by rw [List.length_cons, hM]
  refine rm_aload_n (j := 0) C dc_RentBoard_92 0 rfl ?_
  refine rm_iconst C dc_RentBoard_93 rfl ?_
  refine rm_anew (L := (.inr (8, [.ref (q + 1), .ref (q + 3), .ref (q + 5), .ref (q + 11), .ref (q + 17), .ref (q + 23), .ref (q + 29), .ref (q + 35), .null, .null, .null, .null, .null, .null, .null]) :: M)) (N := 2) C dc_RentBoard_94 (rb_w1 115 rfl rfl) (by decide) rfl (Nat.le_of_ble_eq_true rfl) (Nat.le_of_ble_eq_true rfl) (Nat.le_of_ble_eq_true rfl) ?_
  rw [h1]
  have h2 : ∀ x e : va_E, (x :: (M ++ [e])).length = 110 := fun x e => by rw [List.length_cons, List.length_append, hM]; rfl
  have h3 : ∀ x e : va_E, (x :: (M ++ [e] ++ rm_LState g (q + 110))).length = 116 := fun x e => by rw [List.length_cons, List.length_append, List.length_append, hM]; rfl
  refine rm_dup C dc_RentBoard_97 ?_
  refine rm_iconst C dc_RentBoard_98 rfl ?_
  refine rm_new (L := (.inr (8, [.ref (q + 1), .ref (q + 3), .ref (q + 5), .ref (q + 11), .ref (q + 17), .ref (q + 23), .ref (q + 29), .ref (q + 35), .null, .null, .null, .null, .null, .null, .null]) :: (M ++ [rm_refs g 2 (fun _ => none)]))) C (ci := 5) (fs := [.null, .null, .null, .null, .null, .int 0, .int 0, .int 0, .int 0]) (by decide) dc_RentBoard_99 (rb_w1 115 rfl rfl) (rb_w1 116 rfl rfl) (rb_w1 6 rfl rfl) (by decide) (Nat.le_of_ble_eq_true rfl) (Nat.le_of_ble_eq_true rfl) ?_
  refine rm_dup C dc_RentBoard_102 ?_
  refine rm_call (L := (.inr (8, [.ref (q + 1), .ref (q + 3), .ref (q + 5), .ref (q + 11), .ref (q + 17), .ref (q + 23), .ref (q + 29), .ref (q + 35), .null, .null, .null, .null, .null, .null, .null]) :: (M ++ [rm_refs g 2 (fun _ => none)]))) (As := []) C (rm_mk_State X.2.1 g B) rfl dc_RentBoard_103 (Or.inr ⟨"RentBoard", (rb_v1 117 rfl)⟩) (rb_w1 119 rfl rfl) (rb_w1 6 rfl rfl) (rb_w1 118 rfl rfl) ⟨by decide, by decide, by decide +kernel⟩ (by decide) (by decide) (Nat.le_of_ble_eq_true rfl) (Nat.le_of_ble_eq_true rfl) (Nat.le_of_ble_eq_true rfl) ?_
  rw [h2]
  show rm_Ok X g q 1 115 1194 Q (.inr (8, [.ref (q + 1), .ref (q + 3), .ref (q + 5), .ref (q + 11), .ref (q + 17), .ref (q + 23), .ref (q + 29), .ref (q + 35), .null, .null, .null, .null, .null, .null, .null]) :: (M ++ [rm_refs g 2 (fun _ => none)] ++ rm_LState g (q + 110))) 106 [(0, .ref q)] [.ref (q + 110), .int 0, .ref (q + 109), .ref (q + 109), .ref q]
  refine rm_aast (L := (.inr (8, [.ref (q + 1), .ref (q + 3), .ref (q + 5), .ref (q + 11), .ref (q + 17), .ref (q + 23), .ref (q + 29), .ref (q + 35), .null, .null, .null, .null, .null, .null, .null]) :: (M ++ [rm_refs g 2 (fun _ => none)] ++ rm_LState g (q + 110)))) (a := 109) (j := 110) (N := 2) (fs := [.ref (q + 111), .ref (q + 112), .ref (q + 113), .ref (q + 114), .ref (q + 115), .int 0, .int 0, .int 0, .int 0]) C dc_RentBoard_106 (rm_ixA hM) (rm_ixB (k := 0) hM rfl rfl) (show ¬ ((0 : Int32) < 0 ∨ 2 ≤ (0 : Int32).toNatClampNeg) by decide) ?_
  rw [rm_setA hM]
  show rm_Ok X g q 1 115 1194 Q (.inr (8, [.ref (q + 1), .ref (q + 3), .ref (q + 5), .ref (q + 11), .ref (q + 17), .ref (q + 23), .ref (q + 29), .ref (q + 35), .null, .null, .null, .null, .null, .null, .null]) :: (M ++ [rm_refs g 2 (va_up (fun _ => none) 0 (some (q + 110)))] ++ rm_LState g (q + 110))) 107 [(0, .ref q)] [.ref (q + 109), .ref q]
  refine rm_dup C dc_RentBoard_107 ?_
  refine rm_iconst C dc_RentBoard_108 rfl ?_
  refine rm_new (L := (.inr (8, [.ref (q + 1), .ref (q + 3), .ref (q + 5), .ref (q + 11), .ref (q + 17), .ref (q + 23), .ref (q + 29), .ref (q + 35), .null, .null, .null, .null, .null, .null, .null]) :: (M ++ [rm_refs g 2 (va_up (fun _ => none) 0 (some (q + 110)))] ++ rm_LState g (q + 110)))) C (ci := 5) (fs := [.null, .null, .null, .null, .null, .int 0, .int 0, .int 0, .int 0]) (by decide) dc_RentBoard_109 (rb_w1 115 rfl rfl) (rb_w1 116 rfl rfl) (rb_w1 6 rfl rfl) (by decide) (Nat.le_of_ble_eq_true rfl) (Nat.le_of_ble_eq_true rfl) ?_
  refine rm_dup C dc_RentBoard_112 ?_
  refine rm_call (L := (.inr (8, [.ref (q + 1), .ref (q + 3), .ref (q + 5), .ref (q + 11), .ref (q + 17), .ref (q + 23), .ref (q + 29), .ref (q + 35), .null, .null, .null, .null, .null, .null, .null]) :: (M ++ [rm_refs g 2 (va_up (fun _ => none) 0 (some (q + 110)))] ++ rm_LState g (q + 110)))) (As := []) C (rm_mk_State X.2.1 g B) rfl dc_RentBoard_113 (Or.inr ⟨"RentBoard", (rb_v1 117 rfl)⟩) (rb_w1 119 rfl rfl) (rb_w1 6 rfl rfl) (rb_w1 118 rfl rfl) ⟨by decide, by decide, by decide +kernel⟩ (by decide) (by decide) (Nat.le_of_ble_eq_true rfl) (Nat.le_of_ble_eq_true rfl) (Nat.le_of_ble_eq_true rfl) ?_
  rw [h3]
  show rm_Ok X g q 1 121 1243 Q (.inr (8, [.ref (q + 1), .ref (q + 3), .ref (q + 5), .ref (q + 11), .ref (q + 17), .ref (q + 23), .ref (q + 29), .ref (q + 35), .null, .null, .null, .null, .null, .null, .null]) :: (M ++ [rm_refs g 2 (va_up (fun _ => none) 0 (some (q + 110)))] ++ rm_LState g (q + 110) ++ rm_LState g (q + 116))) 116 [(0, .ref q)] [.ref (q + 116), .int 1, .ref (q + 109), .ref (q + 109), .ref q]
  rw [List.append_assoc (M ++ [rm_refs g 2 (va_up (fun _ => none) 0 (some (q + 110)))]) (rm_LState g (q + 110)) (rm_LState g (q + 116))]
  refine rm_aast (L := (.inr (8, [.ref (q + 1), .ref (q + 3), .ref (q + 5), .ref (q + 11), .ref (q + 17), .ref (q + 23), .ref (q + 29), .ref (q + 35), .null, .null, .null, .null, .null, .null, .null]) :: (M ++ [rm_refs g 2 (va_up (fun _ => none) 0 (some (q + 110)))] ++ (rm_LState g (q + 110) ++ rm_LState g (q + 116))))) (a := 109) (j := 116) (N := 2) (fs := [.ref (q + 117), .ref (q + 118), .ref (q + 119), .ref (q + 120), .ref (q + 121), .int 0, .int 0, .int 0, .int 0]) C dc_RentBoard_116 (rm_ixA hM) (rm_ixB (k := 6) hM rfl rfl) (show ¬ ((1 : Int32) < 0 ∨ 2 ≤ (1 : Int32).toNatClampNeg) by decide) ?_
  rw [rm_setA hM]
  show rm_Ok X g q 1 121 1243 Q (.inr (8, [.ref (q + 1), .ref (q + 3), .ref (q + 5), .ref (q + 11), .ref (q + 17), .ref (q + 23), .ref (q + 29), .ref (q + 35), .null, .null, .null, .null, .null, .null, .null]) :: (M ++ [rm_refs g 2 (va_up (va_up (fun _ => none) 0 (some (q + 110))) 1 (some (q + 116)))] ++ (rm_LState g (q + 110) ++ rm_LState g (q + 116)))) 117 [(0, .ref q)] [.ref (q + 109), .ref q]
  refine rm_put (L := (.inr (8, [.ref (q + 1), .ref (q + 3), .ref (q + 5), .ref (q + 11), .ref (q + 17), .ref (q + 23), .ref (q + 29), .ref (q + 35), .null, .null, .null, .null, .null, .null, .null]) :: (M ++ [rm_refs g 2 (va_up (va_up (fun _ => none) 0 (some (q + 110))) 1 (some (q + 116)))] ++ (rm_LState g (q + 110) ++ rm_LState g (q + 116))))) C hi (ci := 8) (k := 8) (j := 0) (fs := [.ref (q + 1), .ref (q + 3), .ref (q + 5), .ref (q + 11), .ref (q + 17), .ref (q + 23), .ref (q + 29), .ref (q + 35), .null, .null, .null, .null, .null, .null, .null]) (v := .ref (q + 109)) (by decide) dc_RentBoard_117 rfl rfl (Nat.le_of_ble_eq_true rfl) rfl rfl rfl ?_
  exact k
set_option maxRecDepth 100000 in
set_option maxHeartbeats 4000000 in
theorem sg_RentBoard_120 {X : rb_X} {g : rb_G} {B q : Nat} {Q : State → Prop} {M : List va_E} (C : rm_Cx X g B q 8 prog_1_method_1_code 1 3 162 2210) (hi : rm_in X) (hM : M.length = 121) (k : rm_Ok X g q 1 122 1245 Q (.inr (8, [.ref (q + 1), .ref (q + 3), .ref (q + 5), .ref (q + 11), .ref (q + 17), .ref (q + 23), .ref (q + 29), .ref (q + 35), .ref (q + 109), .ref (q + 122), .null, .null, .null, .null, .null]) :: (M ++ [rm_i g 1 2])) 127 [(0, .ref q)] []) : rm_Ok X g q 1 121 1243 Q (.inr (8, [.ref (q + 1), .ref (q + 3), .ref (q + 5), .ref (q + 11), .ref (q + 17), .ref (q + 23), .ref (q + 29), .ref (q + 35), .ref (q + 109), .null, .null, .null, .null, .null, .null]) :: M) 120 [(0, .ref q)] [] := by
  have h1 : ∀ x : va_E, (x :: M).length = 122 := fun x => by rw [List.length_cons, hM]
  refine rm_aload_n (j := 0) C dc_RentBoard_120 0 rfl ?_
  refine rm_iconst C dc_RentBoard_121 rfl ?_
  refine rm_newa (L := (.inr (8, [.ref (q + 1), .ref (q + 3), .ref (q + 5), .ref (q + 11), .ref (q + 17), .ref (q + 23), .ref (q + 29), .ref (q + 35), .ref (q + 109), .null, .null, .null, .null, .null, .null]) :: M)) (cs := 121) (ss := 1243) (n := 2) C (atype := .boolean) (t := 1) (N := 2) (a0 := (2, .inl fun _ => 0)) dc_RentBoard_122 (rb_w1 113 rfl rfl) rfl (fun _ => rfl) (by decide) rfl (Nat.le_of_ble_eq_true rfl) (Nat.le_of_ble_eq_true rfl) (Nat.le_of_ble_eq_true rfl) ?_
  rw [h1]
  refine rm_put (L := (.inr (8, [.ref (q + 1), .ref (q + 3), .ref (q + 5), .ref (q + 11), .ref (q + 17), .ref (q + 23), .ref (q + 29), .ref (q + 35), .ref (q + 109), .null, .null, .null, .null, .null, .null]) :: (M ++ [rm_i g 1 2]))) C hi (ci := 8) (k := 9) (j := 0) (fs := [.ref (q + 1), .ref (q + 3), .ref (q + 5), .ref (q + 11), .ref (q + 17), .ref (q + 23), .ref (q + 29), .ref (q + 35), .ref (q + 109), .null, .null, .null, .null, .null, .null]) (v := .ref (q + 122)) (by decide) dc_RentBoard_124 rfl rfl (Nat.le_of_ble_eq_true rfl) rfl rfl rfl ?_
  exact k
set_option maxRecDepth 100000 in
set_option maxHeartbeats 4000000 in
theorem sg_RentBoard_127 {X : rb_X} {g : rb_G} {B q : Nat} {Q : State → Prop} {M : List va_E} (C : rm_Cx X g B q 8 prog_1_method_1_code 1 3 162 2210) (hi : rm_in X) (hM : M.length = 122) (k : rm_Ok X g q 1 125 1273 Q (.inr (8, [.ref (q + 1), .ref (q + 3), .ref (q + 5), .ref (q + 11), .ref (q + 17), .ref (q + 23), .ref (q + 29), .ref (q + 35), .ref (q + 109), .ref (q + 122), .ref (q + 123), .null, .null, .null, .null]) :: (M ++ rm_LFacts g 12 (q + 123))) 140 [(0, .ref q)] []) : rm_Ok X g q 1 122 1245 Q (.inr (8, [.ref (q + 1), .ref (q + 3), .ref (q + 5), .ref (q + 11), .ref (q + 17), .ref (q + 23), .ref (q + 29), .ref (q + 35), .ref (q + 109), .ref (q + 122), .null, .null, .null, .null, .null]) :: M) 127 [(0, .ref q)] [] := by
  have h1 : ∀ x : va_E, (x :: M).length = 123 := fun x => by rw [List.length_cons, hM]
  refine rm_aload_n (j := 0) C dc_RentBoard_127 0 rfl ?_
  refine rm_new (L := (.inr (8, [.ref (q + 1), .ref (q + 3), .ref (q + 5), .ref (q + 11), .ref (q + 17), .ref (q + 23), .ref (q + 29), .ref (q + 35), .ref (q + 109), .ref (q + 122), .null, .null, .null, .null, .null]) :: M)) C (ci := 0) (fs := [.int 0, .null, .null, .int 0]) (by decide) dc_RentBoard_128 (rb_w1 183 rfl rfl) (rb_w1 184 rfl rfl) (rb_w1 8 rfl rfl) (by decide) (Nat.le_of_ble_eq_true rfl) (Nat.le_of_ble_eq_true rfl) ?_
  refine rm_dup C dc_RentBoard_131 ?_
  refine rm_bipush C dc_RentBoard_132 rfl ?_
  refine rm_call (L := (.inr (8, [.ref (q + 1), .ref (q + 3), .ref (q + 5), .ref (q + 11), .ref (q + 17), .ref (q + 23), .ref (q + 29), .ref (q + 35), .ref (q + 109), .ref (q + 122), .null, .null, .null, .null, .null]) :: M)) (As := [.int 12]) C (rm_mk_Facts X.2.1 g B 12) rfl dc_RentBoard_134 (Or.inl (rb_w1 185 rfl rfl)) (rb_w1 187 rfl rfl) (rb_w1 8 rfl rfl) (rb_w1 186 rfl rfl) ⟨by decide, by decide, by decide +kernel⟩ (by decide) (by decide) (Nat.le_of_ble_eq_true rfl) (Nat.le_of_ble_eq_true rfl) (Nat.le_of_ble_eq_true rfl) ?_
  rw [h1]
  show rm_Ok X g q 1 125 1273 Q (.inr (8, [.ref (q + 1), .ref (q + 3), .ref (q + 5), .ref (q + 11), .ref (q + 17), .ref (q + 23), .ref (q + 29), .ref (q + 35), .ref (q + 109), .ref (q + 122), .null, .null, .null, .null, .null]) :: (M ++ rm_LFacts g 12 (q + 123))) 137 [(0, .ref q)] [.ref (q + 123), .ref q]
  refine rm_put (L := (.inr (8, [.ref (q + 1), .ref (q + 3), .ref (q + 5), .ref (q + 11), .ref (q + 17), .ref (q + 23), .ref (q + 29), .ref (q + 35), .ref (q + 109), .ref (q + 122), .null, .null, .null, .null, .null]) :: (M ++ rm_LFacts g 12 (q + 123)))) C hi (ci := 8) (k := 10) (j := 0) (fs := [.ref (q + 1), .ref (q + 3), .ref (q + 5), .ref (q + 11), .ref (q + 17), .ref (q + 23), .ref (q + 29), .ref (q + 35), .ref (q + 109), .ref (q + 122), .null, .null, .null, .null, .null]) (v := .ref (q + 123)) (by decide) dc_RentBoard_137 rfl rfl (Nat.le_of_ble_eq_true rfl) rfl rfl rfl ?_
  exact k
set_option maxRecDepth 100000 in
set_option maxHeartbeats 4000000 in
theorem sg_RentBoard_140 {X : rb_X} {g : rb_G} {B q : Nat} {Q : State → Prop} {M : List va_E} (C : rm_Cx X g B q 8 prog_1_method_1_code 1 3 162 2210) (hi : rm_in X) (hM : M.length = 125) (k : rm_Ok X g q 1 128 1301 Q (.inr (8, [.ref (q + 1), .ref (q + 3), .ref (q + 5), .ref (q + 11), .ref (q + 17), .ref (q + 23), .ref (q + 29), .ref (q + 35), .ref (q + 109), .ref (q + 122), .ref (q + 123), .ref (q + 126), .null, .null, .null]) :: (M ++ rm_LFacts g 10 (q + 126))) 153 [(0, .ref q)] []) : rm_Ok X g q 1 125 1273 Q (.inr (8, [.ref (q + 1), .ref (q + 3), .ref (q + 5), .ref (q + 11), .ref (q + 17), .ref (q + 23), .ref (q + 29), .ref (q + 35), .ref (q + 109), .ref (q + 122), .ref (q + 123), .null, .null, .null, .null]) :: M) 140 [(0, .ref q)] [] := by
  have h1 : ∀ x : va_E, (x :: M).length = 126 := fun x => by rw [List.length_cons, hM]
  refine rm_aload_n (j := 0) C dc_RentBoard_140 0 rfl ?_
  refine rm_new (L := (.inr (8, [.ref (q + 1), .ref (q + 3), .ref (q + 5), .ref (q + 11), .ref (q + 17), .ref (q + 23), .ref (q + 29), .ref (q + 35), .ref (q + 109), .ref (q + 122), .ref (q + 123), .null, .null, .null, .null]) :: M)) C (ci := 0) (fs := [.int 0, .null, .null, .int 0]) (by decide) dc_RentBoard_141 (rb_w1 183 rfl rfl) (rb_w1 184 rfl rfl) (rb_w1 8 rfl rfl) (by decide) (Nat.le_of_ble_eq_true rfl) (Nat.le_of_ble_eq_true rfl) ?_
  refine rm_dup C dc_RentBoard_144 ?_
  refine rm_bipush C dc_RentBoard_145 rfl ?_
  refine rm_call (L := (.inr (8, [.ref (q + 1), .ref (q + 3), .ref (q + 5), .ref (q + 11), .ref (q + 17), .ref (q + 23), .ref (q + 29), .ref (q + 35), .ref (q + 109), .ref (q + 122), .ref (q + 123), .null, .null, .null, .null]) :: M)) (As := [.int 10]) C (rm_mk_Facts X.2.1 g B 10) rfl dc_RentBoard_147 (Or.inl (rb_w1 185 rfl rfl)) (rb_w1 187 rfl rfl) (rb_w1 8 rfl rfl) (rb_w1 186 rfl rfl) ⟨by decide, by decide, by decide +kernel⟩ (by decide) (by decide) (Nat.le_of_ble_eq_true rfl) (Nat.le_of_ble_eq_true rfl) (Nat.le_of_ble_eq_true rfl) ?_
  rw [h1]
  show rm_Ok X g q 1 128 1301 Q (.inr (8, [.ref (q + 1), .ref (q + 3), .ref (q + 5), .ref (q + 11), .ref (q + 17), .ref (q + 23), .ref (q + 29), .ref (q + 35), .ref (q + 109), .ref (q + 122), .ref (q + 123), .null, .null, .null, .null]) :: (M ++ rm_LFacts g 10 (q + 126))) 150 [(0, .ref q)] [.ref (q + 126), .ref q]
  refine rm_put (L := (.inr (8, [.ref (q + 1), .ref (q + 3), .ref (q + 5), .ref (q + 11), .ref (q + 17), .ref (q + 23), .ref (q + 29), .ref (q + 35), .ref (q + 109), .ref (q + 122), .ref (q + 123), .null, .null, .null, .null]) :: (M ++ rm_LFacts g 10 (q + 126)))) C hi (ci := 8) (k := 11) (j := 0) (fs := [.ref (q + 1), .ref (q + 3), .ref (q + 5), .ref (q + 11), .ref (q + 17), .ref (q + 23), .ref (q + 29), .ref (q + 35), .ref (q + 109), .ref (q + 122), .ref (q + 123), .null, .null, .null, .null]) (v := .ref (q + 126)) (by decide) dc_RentBoard_150 rfl rfl (Nat.le_of_ble_eq_true rfl) rfl rfl rfl ?_
  exact k
set_option maxRecDepth 100000 in
set_option maxHeartbeats 4000000 in
theorem sg_RentBoard_153 (HM : rm_Multi) {X : rb_X} {g : rb_G} {B q : Nat} {Q : State → Prop} {M : List va_E} (C : rm_Cx X g B q 8 prog_1_method_1_code 1 3 162 2210) (hi : rm_in X) (hM : M.length = 128) (k : rm_Ok X g q 1 148 1747 Q (.inr (8, [.ref (q + 1), .ref (q + 3), .ref (q + 5), .ref (q + 11), .ref (q + 17), .ref (q + 23), .ref (q + 29), .ref (q + 35), .ref (q + 109), .ref (q + 122), .ref (q + 123), .ref (q + 126), .ref (q + 129), .null, .null]) :: (M ++ rm_LWalk g (q + 129))) 164 [(0, .ref q)] []) : rm_Ok X g q 1 128 1301 Q (.inr (8, [.ref (q + 1), .ref (q + 3), .ref (q + 5), .ref (q + 11), .ref (q + 17), .ref (q + 23), .ref (q + 29), .ref (q + 35), .ref (q + 109), .ref (q + 122), .ref (q + 123), .ref (q + 126), .null, .null, .null]) :: M) 153 [(0, .ref q)] [] := by
  have h1 : ∀ x : va_E, (x :: M).length = 129 := fun x => by rw [List.length_cons, hM]
  refine rm_aload_n (j := 0) C dc_RentBoard_153 0 rfl ?_
  refine rm_new (L := (.inr (8, [.ref (q + 1), .ref (q + 3), .ref (q + 5), .ref (q + 11), .ref (q + 17), .ref (q + 23), .ref (q + 29), .ref (q + 35), .ref (q + 109), .ref (q + 122), .ref (q + 123), .ref (q + 126), .null, .null, .null]) :: M)) C (ci := 7) (fs := [.null, .null, .null, .null, .null, .null, .int 0, .int 0]) (by decide) dc_RentBoard_154 (rb_w1 205 rfl rfl) (rb_w1 206 rfl rfl) (rb_w1 9 rfl rfl) (by decide) (Nat.le_of_ble_eq_true rfl) (Nat.le_of_ble_eq_true rfl) ?_
  refine rm_dup C dc_RentBoard_157 ?_
  refine rm_call (L := (.inr (8, [.ref (q + 1), .ref (q + 3), .ref (q + 5), .ref (q + 11), .ref (q + 17), .ref (q + 23), .ref (q + 29), .ref (q + 35), .ref (q + 109), .ref (q + 122), .ref (q + 123), .ref (q + 126), .null, .null, .null]) :: M)) (As := []) C (rm_mk_Walk HM X.2.1 g B) rfl dc_RentBoard_158 (Or.inr ⟨"RentBoard", (rb_v1 207 rfl)⟩) (rb_w1 209 rfl rfl) (rb_w1 9 rfl rfl) (rb_w1 208 rfl rfl) ⟨by decide, by decide, by decide +kernel⟩ (by decide) (by decide) (Nat.le_of_ble_eq_true rfl) (Nat.le_of_ble_eq_true rfl) (Nat.le_of_ble_eq_true rfl) ?_
  rw [h1]
  show rm_Ok X g q 1 148 1747 Q (.inr (8, [.ref (q + 1), .ref (q + 3), .ref (q + 5), .ref (q + 11), .ref (q + 17), .ref (q + 23), .ref (q + 29), .ref (q + 35), .ref (q + 109), .ref (q + 122), .ref (q + 123), .ref (q + 126), .null, .null, .null]) :: (M ++ rm_LWalk g (q + 129))) 161 [(0, .ref q)] [.ref (q + 129), .ref q]
  refine rm_put (L := (.inr (8, [.ref (q + 1), .ref (q + 3), .ref (q + 5), .ref (q + 11), .ref (q + 17), .ref (q + 23), .ref (q + 29), .ref (q + 35), .ref (q + 109), .ref (q + 122), .ref (q + 123), .ref (q + 126), .null, .null, .null]) :: (M ++ rm_LWalk g (q + 129)))) C hi (ci := 8) (k := 12) (j := 0) (fs := [.ref (q + 1), .ref (q + 3), .ref (q + 5), .ref (q + 11), .ref (q + 17), .ref (q + 23), .ref (q + 29), .ref (q + 35), .ref (q + 109), .ref (q + 122), .ref (q + 123), .ref (q + 126), .null, .null, .null]) (v := .ref (q + 129)) (by decide) dc_RentBoard_161 rfl rfl (Nat.le_of_ble_eq_true rfl) rfl rfl rfl ?_
  exact k
set_option maxRecDepth 100000 in
set_option maxHeartbeats 4000000 in
theorem sg_RentBoard_164 {X : rb_X} {g : rb_G} {B q : Nat} {Q : State → Prop} {M : List va_E} (C : rm_Cx X g B q 8 prog_1_method_1_code 1 3 162 2210) (hi : rm_in X) (hM : M.length = 148) (k : rm_Ok X g q 1 161 1849 Q (.inr (8, [.ref (q + 1), .ref (q + 3), .ref (q + 5), .ref (q + 11), .ref (q + 17), .ref (q + 23), .ref (q + 29), .ref (q + 35), .ref (q + 109), .ref (q + 122), .ref (q + 123), .ref (q + 126), .ref (q + 129), .ref (q + 149), .null]) :: (M ++ rm_LLookahead g (q + 149))) 175 [(0, .ref q)] []) : rm_Ok X g q 1 148 1747 Q (.inr (8, [.ref (q + 1), .ref (q + 3), .ref (q + 5), .ref (q + 11), .ref (q + 17), .ref (q + 23), .ref (q + 29), .ref (q + 35), .ref (q + 109), .ref (q + 122), .ref (q + 123), .ref (q + 126), .ref (q + 129), .null, .null]) :: M) 164 [(0, .ref q)] [] := by
  have h1 : ∀ x : va_E, (x :: M).length = 149 := fun x => by rw [List.length_cons, hM]
  refine rm_aload_n (j := 0) C dc_RentBoard_164 0 rfl ?_
  refine rm_new (L := (.inr (8, [.ref (q + 1), .ref (q + 3), .ref (q + 5), .ref (q + 11), .ref (q + 17), .ref (q + 23), .ref (q + 29), .ref (q + 35), .ref (q + 109), .ref (q + 122), .ref (q + 123), .ref (q + 126), .ref (q + 129), .null, .null]) :: M)) C (ci := 1) (fs := [.null, .null, .int 0, .int 0]) (by decide) dc_RentBoard_165 (rb_w1 238 rfl rfl) (rb_w1 239 rfl rfl) (rb_w1 10 rfl rfl) (by decide) (Nat.le_of_ble_eq_true rfl) (Nat.le_of_ble_eq_true rfl) ?_
  refine rm_dup C dc_RentBoard_168 ?_
  refine rm_call (L := (.inr (8, [.ref (q + 1), .ref (q + 3), .ref (q + 5), .ref (q + 11), .ref (q + 17), .ref (q + 23), .ref (q + 29), .ref (q + 35), .ref (q + 109), .ref (q + 122), .ref (q + 123), .ref (q + 126), .ref (q + 129), .null, .null]) :: M)) (As := []) C (rm_mk_Lookahead X.2.1 g B) rfl dc_RentBoard_169 (Or.inr ⟨"RentBoard", (rb_v2 0 rfl)⟩) (rb_w2 2 rfl rfl) (rb_w1 10 rfl rfl) (rb_w2 1 rfl rfl) ⟨by decide, by decide, by decide +kernel⟩ (by decide) (by decide) (Nat.le_of_ble_eq_true rfl) (Nat.le_of_ble_eq_true rfl) (Nat.le_of_ble_eq_true rfl) ?_
  rw [h1]
  show rm_Ok X g q 1 161 1849 Q (.inr (8, [.ref (q + 1), .ref (q + 3), .ref (q + 5), .ref (q + 11), .ref (q + 17), .ref (q + 23), .ref (q + 29), .ref (q + 35), .ref (q + 109), .ref (q + 122), .ref (q + 123), .ref (q + 126), .ref (q + 129), .null, .null]) :: (M ++ rm_LLookahead g (q + 149))) 172 [(0, .ref q)] [.ref (q + 149), .ref q]
  refine rm_put (L := (.inr (8, [.ref (q + 1), .ref (q + 3), .ref (q + 5), .ref (q + 11), .ref (q + 17), .ref (q + 23), .ref (q + 29), .ref (q + 35), .ref (q + 109), .ref (q + 122), .ref (q + 123), .ref (q + 126), .ref (q + 129), .null, .null]) :: (M ++ rm_LLookahead g (q + 149)))) C hi (ci := 8) (k := 13) (j := 0) (fs := [.ref (q + 1), .ref (q + 3), .ref (q + 5), .ref (q + 11), .ref (q + 17), .ref (q + 23), .ref (q + 29), .ref (q + 35), .ref (q + 109), .ref (q + 122), .ref (q + 123), .ref (q + 126), .ref (q + 129), .null, .null]) (v := .ref (q + 149)) (by decide) dc_RentBoard_172 rfl rfl (Nat.le_of_ble_eq_true rfl) rfl rfl rfl ?_
  exact k
set_option maxRecDepth 100000 in
set_option maxHeartbeats 4000000 in
theorem sg_RentBoard_175 {X : rb_X} {g : rb_G} {B q : Nat} {Q : State → Prop} {M : List va_E} (C : rm_Cx X g B q 8 prog_1_method_1_code 1 3 162 2210) (hi : rm_in X) (hM : M.length = 161) (k : rm_Ok X g q 1 162 2210 Q (.inr (8, [.ref (q + 1), .ref (q + 3), .ref (q + 5), .ref (q + 11), .ref (q + 17), .ref (q + 23), .ref (q + 29), .ref (q + 35), .ref (q + 109), .ref (q + 122), .ref (q + 123), .ref (q + 126), .ref (q + 129), .ref (q + 149), .ref (q + 162)]) :: (M ++ [rm_i g 1 361])) 184 [(0, .ref q)] []) : rm_Ok X g q 1 161 1849 Q (.inr (8, [.ref (q + 1), .ref (q + 3), .ref (q + 5), .ref (q + 11), .ref (q + 17), .ref (q + 23), .ref (q + 29), .ref (q + 35), .ref (q + 109), .ref (q + 122), .ref (q + 123), .ref (q + 126), .ref (q + 129), .ref (q + 149), .null]) :: M) 175 [(0, .ref q)] [] := by
  have h1 : ∀ x : va_E, (x :: M).length = 162 := fun x => by rw [List.length_cons, hM]
  refine rm_aload_n (j := 0) C dc_RentBoard_175 0 rfl ?_
  refine rm_sipush C dc_RentBoard_176 rfl ?_
  refine rm_newa (L := (.inr (8, [.ref (q + 1), .ref (q + 3), .ref (q + 5), .ref (q + 11), .ref (q + 17), .ref (q + 23), .ref (q + 29), .ref (q + 35), .ref (q + 109), .ref (q + 122), .ref (q + 123), .ref (q + 126), .ref (q + 129), .ref (q + 149), .null]) :: M)) (cs := 161) (ss := 1849) (n := 361) C (atype := .boolean) (t := 1) (N := 361) (a0 := (361, .inl fun _ => 0)) dc_RentBoard_179 (rb_w1 113 rfl rfl) rfl (fun _ => rfl) (by decide) rfl (Nat.le_of_ble_eq_true rfl) (Nat.le_of_ble_eq_true rfl) (Nat.le_of_ble_eq_true rfl) ?_
  rw [h1]
  refine rm_put (L := (.inr (8, [.ref (q + 1), .ref (q + 3), .ref (q + 5), .ref (q + 11), .ref (q + 17), .ref (q + 23), .ref (q + 29), .ref (q + 35), .ref (q + 109), .ref (q + 122), .ref (q + 123), .ref (q + 126), .ref (q + 129), .ref (q + 149), .null]) :: (M ++ [rm_i g 1 361]))) C hi (ci := 8) (k := 14) (j := 0) (fs := [.ref (q + 1), .ref (q + 3), .ref (q + 5), .ref (q + 11), .ref (q + 17), .ref (q + 23), .ref (q + 29), .ref (q + 35), .ref (q + 109), .ref (q + 122), .ref (q + 123), .ref (q + 126), .ref (q + 129), .ref (q + 149), .null]) (v := .ref (q + 162)) (by decide) dc_RentBoard_181 rfl rfl (Nat.le_of_ble_eq_true rfl) rfl rfl rfl ?_
  exact k
set_option maxRecDepth 100000 in
set_option maxHeartbeats 4000000 in
theorem rm_mk_RentBoard (HM : rm_Multi) (l : Launch) (g : rb_G) (B : Nat) : rm_Mk l g B ⟨"RentBoard", "<init>", "()V"⟩ prog_1_method_1_code 1 3 8 [.null, .null, .null, .null, .null, .null, .null, .null, .null, .null, .null, .null, .null, .null, .null] [] (rm_LRentBoard g) 162 2210 := rm_Mk_of (o := 8) (by decide +kernel) rfl rfl (fun q => Nat.le_of_ble_eq_true rfl) (fun X q hX C hi => by
  subst hX
  refine rm_aload_n (j := 0) C dc_RentBoard_0 0 rfl ?_
  refine rm_obj (idx := 3) C (by decide) (Nat.le_of_ble_eq_true rfl) dc_RentBoard_1 (rb_w1 29 rfl rfl) (rb_w1 30 rfl rfl) (rb_w1 31 rfl rfl) ?_
  have h0 : ([] : List va_E).length = 0 := rfl
  refine sg_RentBoard_4 C hi h0 ?_
  have h1 := (rm_lenL (S := rm_LText g (q + 1)) h0 (show _ = 2 from rfl))
  refine sg_RentBoard_15 C hi h1 ?_
  have h2 := (rm_lenL (S := rm_LRow g (q + 3)) h1 (show _ = 2 from rfl))
  refine sg_RentBoard_26 C hi h2 ?_
  have h3 := (rm_lenL (S := rm_LRule g (q + 5)) h2 (show _ = 6 from rfl))
  refine sg_RentBoard_37 C hi h3 ?_
  have h4 := (rm_lenL (S := rm_LRule g (q + 11)) h3 (show _ = 6 from rfl))
  refine sg_RentBoard_48 C hi h4 ?_
  have h5 := (rm_lenL (S := rm_LState g (q + 17)) h4 (show _ = 6 from rfl))
  refine sg_RentBoard_59 C hi h5 ?_
  have h6 := (rm_lenL (S := rm_LState g (q + 23)) h5 (show _ = 6 from rfl))
  refine sg_RentBoard_70 C hi h6 ?_
  have h7 := (rm_lenL (S := rm_LState g (q + 29)) h6 (show _ = 6 from rfl))
  refine sg_RentBoard_81 C hi h7 ?_
  have h8 := (rm_lenL (S := rm_LPast g (q + 35)) h7 (show _ = 74 from rfl))
  refine sg_RentBoard_92 C hi h8 ?_
  have h9 := (rm_lenL (S := (rm_LState g (q + 110) ++ rm_LState g (q + 116))) (rm_lenL (S := [rm_refs g 2 (va_up (va_up (fun _ => none) 0 (some (q + 110))) 1 (some (q + 116)))]) h8 (show _ = 1 from rfl)) (show _ = 12 from rfl))
  refine sg_RentBoard_120 C hi h9 ?_
  have h10 := (rm_lenL (S := [rm_i g 1 2]) h9 (show _ = 1 from rfl))
  refine sg_RentBoard_127 C hi h10 ?_
  have h11 := (rm_lenL (S := rm_LFacts g 12 (q + 123)) h10 (show _ = 3 from rfl))
  refine sg_RentBoard_140 C hi h11 ?_
  have h12 := (rm_lenL (S := rm_LFacts g 10 (q + 126)) h11 (show _ = 3 from rfl))
  refine sg_RentBoard_153 HM C hi h12 ?_
  have h13 := (rm_lenL (S := rm_LWalk g (q + 129)) h12 (show _ = 20 from rfl))
  refine sg_RentBoard_164 C hi h13 ?_
  have h14 := (rm_lenL (S := rm_LLookahead g (q + 149)) h13 (show _ = 13 from rfl))
  refine sg_RentBoard_175 C hi h14 ?_
  have h15 := (rm_lenL (S := [rm_i g 1 361]) h14 (show _ = 1 from rfl))
  exact rm_ret C hi (Nat.le_of_ble_eq_true rfl) (Nat.le_of_ble_eq_true rfl) dc_RentBoard_184)
