def rb_iy (m : Nat) : MethodName := match m with
  | 0 => ⟨"java/lang/System", "arraycopy", "(Ljava/lang/Object;ILjava/lang/Object;II)V"⟩
  | 1 => ⟨"java/lang/Math", "max", "(II)I"⟩
  | 2 => ⟨"java/lang/Math", "min", "(II)I"⟩
  | 3 => ⟨"java/lang/Math", "abs", "(I)I"⟩
  | _ => ⟨"java/lang/Math", "max", "(JJ)J"⟩
def rb_yo (m : Nat) : MethodName := if m < 10 then rb_iy m else (rb_mt (m - 10)).1
def rb_lk (o idx kind m : Nat) : Prop := if kind = 0 then Cond.methodLink (rb_on o) idx (rb_yo m) ∈ rb_tbl else ∃ host, Cond.methodLinkNest (rb_on o) idx (rb_yo m) host ∈ lw_tbl
def rb_flw (o : Nat) (q : Nat × Nat × Nat) : Prop := (q.2.1 < 10 ∧ q.2.2 < (rb_cq q.2.1).2.2) ∧ Cond.fieldLink (rb_on o) q.1 ((rb_cq q.2.1).2.1 q.2.2).1 ((rb_cq q.2.1).2.1 q.2.2).2.1 ((rb_cq q.2.1).2.1 q.2.2).2.2.1 ∈ rb_tbl
def rb_glw (o : Nat) (q : Nat × Nat) : Prop := q.2 < 8 ∧ Cond.fieldLink (rb_on o) q.1 "RentBoard" (rb_sn q.2) "[I" ∈ rb_tbl
def rb_csw (o : Nat) (q : Nat × Value) : Prop := match q.2 with
  | .int v => Cond.constant (rb_on o) q.1 v ∈ rb_tbl
  | .long v => Cond.constantLong (rb_on o) q.1 v ∈ rb_tbl
  | .retAddr n => 100 ≤ n ∧ n < 100 + rb_nS ∧ (rb_ss (n - 100)).1 = rb_on o ∧ (rb_ss (n - 100)).2.1 = q.1
  | _ => False
theorem rb_nn {α : Type} {p : α → Prop} : ∀ x ∈ ([] : List α), p x := fun _ h => absurd h List.not_mem_nil
theorem rb_cc2 {α : Type} {p : α → Prop} {a : α} {l : List α} (h : p a) (t : ∀ x ∈ l, p x) : ∀ x ∈ a :: l, p x := List.forall_mem_cons.mpr ⟨h, t⟩
set_option maxRecDepth 100000 in
theorem rb_fl0 : ∀ q ∈ rb_flL.getD 0 [], rb_flw 0 q := (rb_cc2 ⟨⟨Nat.le_of_ble_eq_true rfl, Nat.le_of_ble_eq_true rfl⟩, rb_f0_18⟩ (rb_cc2 ⟨⟨Nat.le_of_ble_eq_true rfl, Nat.le_of_ble_eq_true rfl⟩, rb_f0_9⟩ (rb_cc2 ⟨⟨Nat.le_of_ble_eq_true rfl, Nat.le_of_ble_eq_true rfl⟩, rb_f0_15⟩ (rb_cc2 ⟨⟨Nat.le_of_ble_eq_true rfl, Nat.le_of_ble_eq_true rfl⟩, rb_f0_22⟩ rb_nn))))
set_option maxRecDepth 100000 in
theorem rb_gl0 : ∀ q ∈ rb_glL.getD 0 [], rb_glw 0 q := rb_nn
set_option maxRecDepth 100000 in
theorem rb_ml0 : ∀ q ∈ rb_mlL.getD 0 [], rb_lk 0 q.1 q.2.1 q.2.2 := rb_nn
set_option maxRecDepth 100000 in
theorem rb_cs0 : ∀ q ∈ rb_csL.getD 0 [], rb_csw 0 q := rb_nn
theorem rb_l1_28 : rb_lk 1 28 0 60 := (rb_w4 151 rfl rfl)
theorem rb_l1_32 : rb_lk 1 32 0 61 := (rb_w4 152 rfl rfl)
theorem rb_l1_36 : rb_lk 1 36 1 68 := ⟨"RentBoard", (rb_v4 153 rfl)⟩
theorem rb_l1_40 : rb_lk 1 40 0 17 := (rb_w4 154 rfl rfl)
theorem rb_l1_44 : rb_lk 1 44 0 71 := (rb_w4 155 rfl rfl)
theorem rb_l1_51 : rb_lk 1 51 0 129 := (rb_w4 156 rfl rfl)
theorem rb_l1_58 : rb_lk 1 58 0 128 := (rb_w4 169 rfl rfl)
set_option maxRecDepth 100000 in
theorem rb_fl1 : ∀ q ∈ rb_flL.getD 1 [], rb_flw 1 q := (rb_cc2 ⟨⟨Nat.le_of_ble_eq_true rfl, Nat.le_of_ble_eq_true rfl⟩, rb_f1_25⟩ (rb_cc2 ⟨⟨Nat.le_of_ble_eq_true rfl, Nat.le_of_ble_eq_true rfl⟩, rb_f1_48⟩ (rb_cc2 ⟨⟨Nat.le_of_ble_eq_true rfl, Nat.le_of_ble_eq_true rfl⟩, rb_f1_12⟩ (rb_cc2 ⟨⟨Nat.le_of_ble_eq_true rfl, Nat.le_of_ble_eq_true rfl⟩, rb_f1_18⟩ (rb_cc2 ⟨⟨Nat.le_of_ble_eq_true rfl, Nat.le_of_ble_eq_true rfl⟩, rb_f1_55⟩ (rb_cc2 ⟨⟨Nat.le_of_ble_eq_true rfl, Nat.le_of_ble_eq_true rfl⟩, rb_f1_21⟩ rb_nn))))))
set_option maxRecDepth 100000 in
theorem rb_gl1 : ∀ q ∈ rb_glL.getD 1 [], rb_glw 1 q := rb_nn
set_option maxRecDepth 100000 in
theorem rb_ml1 : ∀ q ∈ rb_mlL.getD 1 [], rb_lk 1 q.1 q.2.1 q.2.2 := (rb_cc2 rb_l1_28 (rb_cc2 rb_l1_32 (rb_cc2 rb_l1_36 (rb_cc2 rb_l1_40 (rb_cc2 rb_l1_44 (rb_cc2 rb_l1_51 (rb_cc2 rb_l1_58 rb_nn)))))))
set_option maxRecDepth 100000 in
theorem rb_cs1 : ∀ q ∈ rb_csL.getD 1 [], rb_csw 1 q := rb_nn
theorem rb_l2_25 : rb_lk 2 25 0 17 := (rb_w3 149 rfl rfl)
set_option maxRecDepth 100000 in
theorem rb_fl2 : ∀ q ∈ rb_flL.getD 2 [], rb_flw 2 q := (rb_cc2 ⟨⟨Nat.le_of_ble_eq_true rfl, Nat.le_of_ble_eq_true rfl⟩, rb_f2_11⟩ (rb_cc2 ⟨⟨Nat.le_of_ble_eq_true rfl, Nat.le_of_ble_eq_true rfl⟩, rb_f2_18⟩ (rb_cc2 ⟨⟨Nat.le_of_ble_eq_true rfl, Nat.le_of_ble_eq_true rfl⟩, rb_f2_22⟩ rb_nn)))
set_option maxRecDepth 100000 in
theorem rb_gl2 : ∀ q ∈ rb_glL.getD 2 [], rb_glw 2 q := rb_nn
set_option maxRecDepth 100000 in
theorem rb_ml2 : ∀ q ∈ rb_mlL.getD 2 [], rb_lk 2 q.1 q.2.1 q.2.2 := (rb_cc2 rb_l2_25 rb_nn)
set_option maxRecDepth 100000 in
theorem rb_cs2 : ∀ q ∈ rb_csL.getD 2 [], rb_csw 2 q := rb_nn
set_option maxRecDepth 100000 in
theorem rb_fl3 : ∀ q ∈ rb_flL.getD 3 [], rb_flw 3 q := (rb_cc2 ⟨⟨Nat.le_of_ble_eq_true rfl, Nat.le_of_ble_eq_true rfl⟩, rb_f3_9⟩ (rb_cc2 ⟨⟨Nat.le_of_ble_eq_true rfl, Nat.le_of_ble_eq_true rfl⟩, rb_f3_15⟩ rb_nn))
set_option maxRecDepth 100000 in
theorem rb_gl3 : ∀ q ∈ rb_glL.getD 3 [], rb_glw 3 q := rb_nn
set_option maxRecDepth 100000 in
theorem rb_ml3 : ∀ q ∈ rb_mlL.getD 3 [], rb_lk 3 q.1 q.2.1 q.2.2 := rb_nn
set_option maxRecDepth 100000 in
theorem rb_cs3 : ∀ q ∈ rb_csL.getD 3 [], rb_csw 3 q := rb_nn
theorem rb_l4_27 : rb_lk 4 27 0 10 := (rb_w1 71 rfl rfl)
theorem rb_l4_62 : rb_lk 4 62 0 2 := (rb_w3 6 rfl rfl)
theorem rb_l4_68 : rb_lk 4 68 0 20 := (rb_w3 7 rfl rfl)
theorem rb_l4_72 : rb_lk 4 72 0 41 := (rb_w3 8 rfl rfl)
theorem rb_l4_80 : rb_lk 4 80 1 32 := ⟨"RentBoard", (rb_v3 12 rfl)⟩
theorem rb_l4_83 : rb_lk 4 83 0 42 := (rb_w3 13 rfl rfl)
theorem rb_l4_93 : rb_lk 4 93 0 43 := (rb_w3 17 rfl rfl)
theorem rb_l4_87 : rb_lk 4 87 0 44 := (rb_w3 21 rfl rfl)
theorem rb_l4_96 : rb_lk 4 96 0 45 := (rb_w3 25 rfl rfl)
theorem rb_l4_99 : rb_lk 4 99 0 21 := (rb_w3 29 rfl rfl)
theorem rb_l4_90 : rb_lk 4 90 0 46 := (rb_w3 30 rfl rfl)
theorem rb_l4_103 : rb_lk 4 103 0 47 := (rb_w3 34 rfl rfl)
theorem rb_l4_76 : rb_lk 4 76 0 48 := (rb_w3 38 rfl rfl)
theorem rb_l4_107 : rb_lk 4 107 0 49 := (rb_w3 42 rfl rfl)
theorem rb_l4_110 : rb_lk 4 110 0 1 := (rb_w3 45 rfl rfl)
theorem rb_l4_36 : rb_lk 4 36 0 0 := (rb_w3 50 rfl rfl)
theorem rb_l4_113 : rb_lk 4 113 1 85 := ⟨"RentBoard", (rb_v3 197 rfl)⟩
theorem rb_l4_116 : rb_lk 4 116 0 86 := (rb_w3 202 rfl rfl)
theorem rb_l4_122 : rb_lk 4 122 0 87 := (rb_w3 206 rfl rfl)
theorem rb_l4_126 : rb_lk 4 126 0 88 := (rb_w3 209 rfl rfl)
theorem rb_l4_119 : rb_lk 4 119 1 55 := ⟨"RentBoard", (rb_v3 213 rfl)⟩
set_option maxRecDepth 100000 in
theorem rb_fl4 : ∀ q ∈ rb_flL.getD 4 [], rb_flw 4 q := (rb_cc2 ⟨⟨Nat.le_of_ble_eq_true rfl, Nat.le_of_ble_eq_true rfl⟩, rb_f4_59⟩ (rb_cc2 ⟨⟨Nat.le_of_ble_eq_true rfl, Nat.le_of_ble_eq_true rfl⟩, rb_f4_9⟩ (rb_cc2 ⟨⟨Nat.le_of_ble_eq_true rfl, Nat.le_of_ble_eq_true rfl⟩, rb_f4_15⟩ (rb_cc2 ⟨⟨Nat.le_of_ble_eq_true rfl, Nat.le_of_ble_eq_true rfl⟩, rb_f4_18⟩ (rb_cc2 ⟨⟨Nat.le_of_ble_eq_true rfl, Nat.le_of_ble_eq_true rfl⟩, rb_f4_21⟩ (rb_cc2 ⟨⟨Nat.le_of_ble_eq_true rfl, Nat.le_of_ble_eq_true rfl⟩, rb_f4_33⟩ (rb_cc2 ⟨⟨Nat.le_of_ble_eq_true rfl, Nat.le_of_ble_eq_true rfl⟩, rb_f4_42⟩ (rb_cc2 ⟨⟨Nat.le_of_ble_eq_true rfl, Nat.le_of_ble_eq_true rfl⟩, rb_f4_46⟩ (rb_cc2 ⟨⟨Nat.le_of_ble_eq_true rfl, Nat.le_of_ble_eq_true rfl⟩, rb_f4_49⟩ (rb_cc2 ⟨⟨Nat.le_of_ble_eq_true rfl, Nat.le_of_ble_eq_true rfl⟩, rb_f4_52⟩ (rb_cc2 ⟨⟨Nat.le_of_ble_eq_true rfl, Nat.le_of_ble_eq_true rfl⟩, rb_f4_55⟩ rb_nn)))))))))))
set_option maxRecDepth 100000 in
theorem rb_gl4 : ∀ q ∈ rb_glL.getD 4 [], rb_glw 4 q := rb_nn
set_option maxRecDepth 100000 in
theorem rb_ml4 : ∀ q ∈ rb_mlL.getD 4 [], rb_lk 4 q.1 q.2.1 q.2.2 := (rb_cc2 rb_l4_27 (rb_cc2 rb_l4_62 (rb_cc2 rb_l4_68 (rb_cc2 rb_l4_72 (rb_cc2 rb_l4_80 (rb_cc2 rb_l4_83 (rb_cc2 rb_l4_93 (rb_cc2 rb_l4_87 (rb_cc2 rb_l4_96 (rb_cc2 rb_l4_99 (rb_cc2 rb_l4_90 (rb_cc2 rb_l4_103 (rb_cc2 rb_l4_76 (rb_cc2 rb_l4_107 (rb_cc2 rb_l4_110 (rb_cc2 rb_l4_36 (rb_cc2 rb_l4_113 (rb_cc2 rb_l4_116 (rb_cc2 rb_l4_122 (rb_cc2 rb_l4_126 (rb_cc2 rb_l4_119 rb_nn)))))))))))))))))))))
set_option maxRecDepth 100000 in
theorem rb_cs4 : ∀ q ∈ rb_csL.getD 4 [], rb_csw 4 q := (rb_cc2 ⟨Nat.le_of_ble_eq_true rfl, Nat.le_of_ble_eq_true rfl, rfl, rfl⟩ rb_nn)
theorem rb_l5_27 : rb_lk 5 27 0 0 := (rb_w2 91 rfl rfl)
theorem rb_l5_46 : rb_lk 5 46 0 53 := (rb_w3 59 rfl rfl)
theorem rb_l5_50 : rb_lk 5 50 0 52 := (rb_w3 89 rfl rfl)
theorem rb_l5_63 : rb_lk 5 63 0 62 := (rb_w3 94 rfl rfl)
theorem rb_l5_67 : rb_lk 5 67 1 63 := ⟨"RentBoard", (rb_v3 98 rfl)⟩
theorem rb_l5_70 : rb_lk 5 70 1 64 := ⟨"RentBoard", (rb_v3 101 rfl)⟩
theorem rb_l5_74 : rb_lk 5 74 0 34 := (rb_w3 139 rfl rfl)
theorem rb_l5_77 : rb_lk 5 77 0 2 := (rb_w3 140 rfl rfl)
theorem rb_l5_82 : rb_lk 5 82 0 72 := (rb_w3 141 rfl rfl)
theorem rb_l5_53 : rb_lk 5 53 0 78 := (rb_w3 166 rfl rfl)
theorem rb_l5_57 : rb_lk 5 57 0 79 := (rb_w3 170 rfl rfl)
theorem rb_l5_101 : rb_lk 5 101 0 81 := (rb_w3 180 rfl rfl)
theorem rb_l5_97 : rb_lk 5 97 0 82 := (rb_w3 184 rfl rfl)
theorem rb_l5_86 : rb_lk 5 86 1 65 := ⟨"RentBoard", (rb_v3 188 rfl)⟩
theorem rb_l5_89 : rb_lk 5 89 0 83 := (rb_w3 189 rfl rfl)
theorem rb_l5_92 : rb_lk 5 92 0 84 := (rb_w3 193 rfl rfl)
set_option maxRecDepth 100000 in
theorem rb_fl5 : ∀ q ∈ rb_flL.getD 5 [], rb_flw 5 q := (rb_cc2 ⟨⟨Nat.le_of_ble_eq_true rfl, Nat.le_of_ble_eq_true rfl⟩, rb_f5_9⟩ (rb_cc2 ⟨⟨Nat.le_of_ble_eq_true rfl, Nat.le_of_ble_eq_true rfl⟩, rb_f5_15⟩ (rb_cc2 ⟨⟨Nat.le_of_ble_eq_true rfl, Nat.le_of_ble_eq_true rfl⟩, rb_f5_18⟩ (rb_cc2 ⟨⟨Nat.le_of_ble_eq_true rfl, Nat.le_of_ble_eq_true rfl⟩, rb_f5_21⟩ (rb_cc2 ⟨⟨Nat.le_of_ble_eq_true rfl, Nat.le_of_ble_eq_true rfl⟩, rb_f5_24⟩ (rb_cc2 ⟨⟨Nat.le_of_ble_eq_true rfl, Nat.le_of_ble_eq_true rfl⟩, rb_f5_33⟩ (rb_cc2 ⟨⟨Nat.le_of_ble_eq_true rfl, Nat.le_of_ble_eq_true rfl⟩, rb_f5_37⟩ (rb_cc2 ⟨⟨Nat.le_of_ble_eq_true rfl, Nat.le_of_ble_eq_true rfl⟩, rb_f5_40⟩ (rb_cc2 ⟨⟨Nat.le_of_ble_eq_true rfl, Nat.le_of_ble_eq_true rfl⟩, rb_f5_43⟩ rb_nn)))))))))
set_option maxRecDepth 100000 in
theorem rb_gl5 : ∀ q ∈ rb_glL.getD 5 [], rb_glw 5 q := rb_nn
set_option maxRecDepth 100000 in
theorem rb_ml5 : ∀ q ∈ rb_mlL.getD 5 [], rb_lk 5 q.1 q.2.1 q.2.2 := (rb_cc2 rb_l5_27 (rb_cc2 rb_l5_46 (rb_cc2 rb_l5_50 (rb_cc2 rb_l5_63 (rb_cc2 rb_l5_67 (rb_cc2 rb_l5_70 (rb_cc2 rb_l5_74 (rb_cc2 rb_l5_77 (rb_cc2 rb_l5_82 (rb_cc2 rb_l5_53 (rb_cc2 rb_l5_57 (rb_cc2 rb_l5_101 (rb_cc2 rb_l5_97 (rb_cc2 rb_l5_86 (rb_cc2 rb_l5_89 (rb_cc2 rb_l5_92 rb_nn))))))))))))))))
set_option maxRecDepth 100000 in
theorem rb_cs5 : ∀ q ∈ rb_csL.getD 5 [], rb_csw 5 q := rb_nn
theorem rb_l6_19 : rb_lk 6 19 0 20 := (rb_w2 217 rfl rfl)
theorem rb_l6_23 : rb_lk 6 23 0 36 := (rb_w2 226 rfl rfl)
set_option maxRecDepth 100000 in
theorem rb_fl6 : ∀ q ∈ rb_flL.getD 6 [], rb_flw 6 q := (rb_cc2 ⟨⟨Nat.le_of_ble_eq_true rfl, Nat.le_of_ble_eq_true rfl⟩, rb_f6_9⟩ (rb_cc2 ⟨⟨Nat.le_of_ble_eq_true rfl, Nat.le_of_ble_eq_true rfl⟩, rb_f6_15⟩ rb_nn))
set_option maxRecDepth 100000 in
theorem rb_gl6 : ∀ q ∈ rb_glL.getD 6 [], rb_glw 6 q := rb_nn
set_option maxRecDepth 100000 in
theorem rb_ml6 : ∀ q ∈ rb_mlL.getD 6 [], rb_lk 6 q.1 q.2.1 q.2.2 := (rb_cc2 rb_l6_19 (rb_cc2 rb_l6_23 rb_nn))
set_option maxRecDepth 100000 in
theorem rb_cs6 : ∀ q ∈ rb_csL.getD 6 [], rb_csw 6 q := rb_nn
theorem rb_l7_37 : rb_lk 7 37 0 62 := (rb_w4 53 rfl rfl)
theorem rb_l7_55 : rb_lk 7 55 1 64 := ⟨"RentBoard", (rb_v4 55 rfl)⟩
theorem rb_l7_59 : rb_lk 7 59 1 68 := ⟨"RentBoard", (rb_v4 60 rfl)⟩
theorem rb_l7_63 : rb_lk 7 63 0 108 := (rb_w4 61 rfl rfl)
theorem rb_l7_67 : rb_lk 7 67 1 59 := ⟨"RentBoard", (rb_v4 69 rfl)⟩
theorem rb_l7_71 : rb_lk 7 71 1 110 := ⟨"RentBoard", (rb_v4 70 rfl)⟩
theorem rb_l7_74 : rb_lk 7 74 0 75 := (rb_w4 73 rfl rfl)
theorem rb_l7_80 : rb_lk 7 80 0 113 := (rb_w4 82 rfl rfl)
theorem rb_l7_86 : rb_lk 7 86 0 114 := (rb_w4 85 rfl rfl)
theorem rb_l7_90 : rb_lk 7 90 0 0 := (rb_w4 89 rfl rfl)
theorem rb_l7_99 : rb_lk 7 99 0 82 := (rb_w4 126 rfl rfl)
theorem rb_l7_103 : rb_lk 7 103 0 123 := (rb_w4 127 rfl rfl)
set_option maxRecDepth 100000 in
theorem rb_fl7 : ∀ q ∈ rb_flL.getD 7 [], rb_flw 7 q := (rb_cc2 ⟨⟨Nat.le_of_ble_eq_true rfl, Nat.le_of_ble_eq_true rfl⟩, rb_f7_52⟩ (rb_cc2 ⟨⟨Nat.le_of_ble_eq_true rfl, Nat.le_of_ble_eq_true rfl⟩, rb_f7_32⟩ (rb_cc2 ⟨⟨Nat.le_of_ble_eq_true rfl, Nat.le_of_ble_eq_true rfl⟩, rb_f7_41⟩ (rb_cc2 ⟨⟨Nat.le_of_ble_eq_true rfl, Nat.le_of_ble_eq_true rfl⟩, rb_f7_96⟩ (rb_cc2 ⟨⟨Nat.le_of_ble_eq_true rfl, Nat.le_of_ble_eq_true rfl⟩, rb_f7_9⟩ (rb_cc2 ⟨⟨Nat.le_of_ble_eq_true rfl, Nat.le_of_ble_eq_true rfl⟩, rb_f7_15⟩ (rb_cc2 ⟨⟨Nat.le_of_ble_eq_true rfl, Nat.le_of_ble_eq_true rfl⟩, rb_f7_18⟩ (rb_cc2 ⟨⟨Nat.le_of_ble_eq_true rfl, Nat.le_of_ble_eq_true rfl⟩, rb_f7_21⟩ (rb_cc2 ⟨⟨Nat.le_of_ble_eq_true rfl, Nat.le_of_ble_eq_true rfl⟩, rb_f7_26⟩ (rb_cc2 ⟨⟨Nat.le_of_ble_eq_true rfl, Nat.le_of_ble_eq_true rfl⟩, rb_f7_29⟩ (rb_cc2 ⟨⟨Nat.le_of_ble_eq_true rfl, Nat.le_of_ble_eq_true rfl⟩, rb_f7_44⟩ (rb_cc2 ⟨⟨Nat.le_of_ble_eq_true rfl, Nat.le_of_ble_eq_true rfl⟩, rb_f7_49⟩ rb_nn))))))))))))
set_option maxRecDepth 100000 in
theorem rb_gl7 : ∀ q ∈ rb_glL.getD 7 [], rb_glw 7 q := rb_nn
set_option maxRecDepth 100000 in
theorem rb_ml7 : ∀ q ∈ rb_mlL.getD 7 [], rb_lk 7 q.1 q.2.1 q.2.2 := (rb_cc2 rb_l7_37 (rb_cc2 rb_l7_55 (rb_cc2 rb_l7_59 (rb_cc2 rb_l7_63 (rb_cc2 rb_l7_67 (rb_cc2 rb_l7_71 (rb_cc2 rb_l7_74 (rb_cc2 rb_l7_80 (rb_cc2 rb_l7_86 (rb_cc2 rb_l7_90 (rb_cc2 rb_l7_99 (rb_cc2 rb_l7_103 rb_nn))))))))))))
set_option maxRecDepth 100000 in
theorem rb_cs7 : ∀ q ∈ rb_csL.getD 7 [], rb_csw 7 q := (rb_cc2 (rb_w4 54 rfl rfl) rb_nn)
theorem rb_l8_90 : rb_lk 8 90 0 13 := (rb_w2 71 rfl rfl)
theorem rb_l8_98 : rb_lk 8 98 0 15 := (rb_w2 79 rfl rfl)
theorem rb_l8_101 : rb_lk 8 101 0 17 := (rb_w2 87 rfl rfl)
theorem rb_l8_105 : rb_lk 8 105 0 18 := (rb_w2 94 rfl rfl)
theorem rb_l8_113 : rb_lk 8 113 0 2 := (rb_w2 98 rfl rfl)
theorem rb_l8_121 : rb_lk 8 121 0 10 := (rb_w2 102 rfl rfl)
theorem rb_l8_126 : rb_lk 8 126 0 19 := (rb_w2 103 rfl rfl)
theorem rb_l8_132 : rb_lk 8 132 0 20 := (rb_w2 108 rfl rfl)
theorem rb_l8_136 : rb_lk 8 136 0 21 := (rb_w2 112 rfl rfl)
theorem rb_l8_149 : rb_lk 8 149 0 27 := (rb_w2 187 rfl rfl)
theorem rb_l8_152 : rb_lk 8 152 0 31 := (rb_w2 207 rfl rfl)
theorem rb_l8_445 : rb_lk 8 445 0 32 := (rb_w2 210 rfl rfl)
theorem rb_l8_139 : rb_lk 8 139 0 33 := (rb_w2 213 rfl rfl)
theorem rb_l8_156 : rb_lk 8 156 0 34 := (rb_w2 218 rfl rfl)
theorem rb_l8_142 : rb_lk 8 142 0 35 := (rb_w2 222 rfl rfl)
theorem rb_l8_145 : rb_lk 8 145 0 37 := (rb_w2 230 rfl rfl)
theorem rb_l8_110 : rb_lk 8 110 0 38 := (rb_w2 234 rfl rfl)
theorem rb_l8_159 : rb_lk 8 159 0 40 := (rb_w3 2 rfl rfl)
theorem rb_l8_163 : rb_lk 8 163 0 50 := (rb_w3 46 rfl rfl)
theorem rb_l8_200 : rb_lk 8 200 0 52 := (rb_w3 55 rfl rfl)
theorem rb_l8_212 : rb_lk 8 212 0 54 := (rb_w3 63 rfl rfl)
theorem rb_l8_215 : rb_lk 8 215 0 55 := (rb_w3 66 rfl rfl)
theorem rb_l8_218 : rb_lk 8 218 0 56 := (rb_w3 69 rfl rfl)
theorem rb_l8_221 : rb_lk 8 221 0 58 := (rb_w3 77 rfl rfl)
theorem rb_l8_166 : rb_lk 8 166 0 53 := (rb_w3 81 rfl rfl)
theorem rb_l8_195 : rb_lk 8 195 0 59 := (rb_w3 82 rfl rfl)
theorem rb_l8_230 : rb_lk 8 230 0 60 := (rb_w3 85 rfl rfl)
theorem rb_l8_233 : rb_lk 8 233 0 61 := (rb_w3 90 rfl rfl)
theorem rb_l8_473 : rb_lk 8 473 0 65 := (rb_w3 104 rfl rfl)
theorem rb_l8_452 : rb_lk 8 452 0 63 := (rb_w3 107 rfl rfl)
theorem rb_l8_476 : rb_lk 8 476 0 66 := (rb_w3 111 rfl rfl)
theorem rb_l8_387 : rb_lk 8 387 0 1 := (rb_w3 114 rfl rfl)
theorem rb_l8_464 : rb_lk 8 464 0 67 := (rb_w3 119 rfl rfl)
theorem rb_l8_236 : rb_lk 8 236 0 68 := (rb_w3 122 rfl rfl)
theorem rb_l8_480 : rb_lk 8 480 0 69 := (rb_w3 125 rfl rfl)
theorem rb_l8_483 : rb_lk 8 483 0 70 := (rb_w3 132 rfl rfl)
theorem rb_l8_240 : rb_lk 8 240 0 71 := (rb_w3 135 rfl rfl)
theorem rb_l8_224 : rb_lk 8 224 0 73 := (rb_w3 145 rfl rfl)
theorem rb_l8_226 : rb_lk 8 226 0 74 := (rb_w3 150 rfl rfl)
theorem rb_l8_358 : rb_lk 8 358 0 75 := (rb_w3 154 rfl rfl)
theorem rb_l8_243 : rb_lk 8 243 0 77 := (rb_w3 162 rfl rfl)
theorem rb_l8_246 : rb_lk 8 246 0 80 := (rb_w3 176 rfl rfl)
theorem rb_l8_249 : rb_lk 8 249 0 89 := (rb_w3 214 rfl rfl)
theorem rb_l8_252 : rb_lk 8 252 0 91 := (rb_w3 222 rfl rfl)
theorem rb_l8_258 : rb_lk 8 258 0 93 := (rb_w3 230 rfl rfl)
theorem rb_l8_262 : rb_lk 8 262 0 95 := (rb_w3 238 rfl rfl)
theorem rb_l8_265 : rb_lk 8 265 0 96 := (rb_w4 2 rfl rfl)
theorem rb_l8_268 : rb_lk 8 268 0 98 := (rb_w4 9 rfl rfl)
theorem rb_l8_274 : rb_lk 8 274 0 99 := (rb_w4 14 rfl rfl)
theorem rb_l8_271 : rb_lk 8 271 0 100 := (rb_w4 22 rfl rfl)
theorem rb_l8_290 : rb_lk 8 290 0 36 := (rb_w4 26 rfl rfl)
theorem rb_l8_293 : rb_lk 8 293 0 102 := (rb_w4 31 rfl rfl)
theorem rb_l8_298 : rb_lk 8 298 0 62 := (rb_w4 39 rfl rfl)
theorem rb_l8_301 : rb_lk 8 301 0 79 := (rb_w4 40 rfl rfl)
theorem rb_l8_306 : rb_lk 8 306 0 106 := (rb_w4 49 rfl rfl)
theorem rb_l8_310 : rb_lk 8 310 0 107 := (rb_w4 56 rfl rfl)
theorem rb_l8_314 : rb_lk 8 314 0 109 := (rb_w4 65 rfl rfl)
theorem rb_l8_318 : rb_lk 8 318 0 112 := (rb_w4 78 rfl rfl)
theorem rb_l8_189 : rb_lk 8 189 0 116 := (rb_w4 94 rfl rfl)
theorem rb_l8_321 : rb_lk 8 321 0 78 := (rb_w4 102 rfl rfl)
theorem rb_l8_324 : rb_lk 8 324 0 81 := (rb_w4 107 rfl rfl)
theorem rb_l8_328 : rb_lk 8 328 0 83 := (rb_w4 116 rfl rfl)
theorem rb_l8_208 : rb_lk 8 208 0 82 := (rb_w4 117 rfl rfl)
theorem rb_l8_331 : rb_lk 8 331 0 122 := (rb_w4 122 rfl rfl)
theorem rb_l8_335 : rb_lk 8 335 0 124 := (rb_w4 131 rfl rfl)
theorem rb_l8_338 : rb_lk 8 338 0 126 := (rb_w4 139 rfl rfl)
theorem rb_l8_341 : rb_lk 8 341 0 128 := (rb_w4 147 rfl rfl)
theorem rb_l8_348 : rb_lk 8 348 0 129 := (rb_w4 164 rfl rfl)
theorem rb_l8_354 : rb_lk 8 354 0 131 := (rb_w4 165 rfl rfl)
theorem rb_l8_363 : rb_lk 8 363 0 134 := (rb_w4 180 rfl rfl)
theorem rb_l8_365 : rb_lk 8 365 0 136 := (rb_w4 188 rfl rfl)
theorem rb_l8_367 : rb_lk 8 367 0 138 := (rb_w4 196 rfl rfl)
theorem rb_l8_377 : rb_lk 8 377 0 139 := (rb_w4 200 rfl rfl)
theorem rb_l8_380 : rb_lk 8 380 0 140 := (rb_w4 204 rfl rfl)
theorem rb_l8_384 : rb_lk 8 384 0 85 := (rb_w4 208 rfl rfl)
theorem rb_l8_390 : rb_lk 8 390 0 145 := (rb_w4 225 rfl rfl)
theorem rb_l8_393 : rb_lk 8 393 0 146 := (rb_w4 229 rfl rfl)
theorem rb_l8_396 : rb_lk 8 396 0 148 := (rb_w4 236 rfl rfl)
theorem rb_l8_399 : rb_lk 8 399 0 150 := (rb_w5 4 rfl rfl)
theorem rb_l8_402 : rb_lk 8 402 0 151 := (rb_w5 8 rfl rfl)
theorem rb_l8_408 : rb_lk 8 408 0 152 := (rb_w5 12 rfl rfl)
theorem rb_l8_412 : rb_lk 8 412 0 4 := (rb_w5 15 rfl rfl)
theorem rb_l8_414 : rb_lk 8 414 0 154 := (rb_w5 22 rfl rfl)
theorem rb_l8_423 : rb_lk 8 423 0 156 := (rb_w5 34 rfl rfl)
theorem rb_l8_426 : rb_lk 8 426 0 157 := (rb_w5 37 rfl rfl)
theorem rb_l8_429 : rb_lk 8 429 0 160 := (rb_w5 48 rfl rfl)
theorem rb_l8_432 : rb_lk 8 432 0 161 := (rb_w5 52 rfl rfl)
set_option maxRecDepth 100000 in
theorem rb_fl8 : ∀ q ∈ rb_flL.getD 8 [], rb_flw 8 q := (rb_cc2 ⟨⟨Nat.le_of_ble_eq_true rfl, Nat.le_of_ble_eq_true rfl⟩, rb_f8_94⟩ (rb_cc2 ⟨⟨Nat.le_of_ble_eq_true rfl, Nat.le_of_ble_eq_true rfl⟩, rb_f8_441⟩ (rb_cc2 ⟨⟨Nat.le_of_ble_eq_true rfl, Nat.le_of_ble_eq_true rfl⟩, rb_f8_313⟩ (rb_cc2 ⟨⟨Nat.le_of_ble_eq_true rfl, Nat.le_of_ble_eq_true rfl⟩, rb_f8_176⟩ (rb_cc2 ⟨⟨Nat.le_of_ble_eq_true rfl, Nat.le_of_ble_eq_true rfl⟩, rb_f8_180⟩ (rb_cc2 ⟨⟨Nat.le_of_ble_eq_true rfl, Nat.le_of_ble_eq_true rfl⟩, rb_f8_183⟩ (rb_cc2 ⟨⟨Nat.le_of_ble_eq_true rfl, Nat.le_of_ble_eq_true rfl⟩, rb_f8_186⟩ (rb_cc2 ⟨⟨Nat.le_of_ble_eq_true rfl, Nat.le_of_ble_eq_true rfl⟩, rb_f8_109⟩ (rb_cc2 ⟨⟨Nat.le_of_ble_eq_true rfl, Nat.le_of_ble_eq_true rfl⟩, rb_f8_255⟩ (rb_cc2 ⟨⟨Nat.le_of_ble_eq_true rfl, Nat.le_of_ble_eq_true rfl⟩, rb_f8_205⟩ (rb_cc2 ⟨⟨Nat.le_of_ble_eq_true rfl, Nat.le_of_ble_eq_true rfl⟩, rb_f8_435⟩ (rb_cc2 ⟨⟨Nat.le_of_ble_eq_true rfl, Nat.le_of_ble_eq_true rfl⟩, rb_f8_297⟩ (rb_cc2 ⟨⟨Nat.le_of_ble_eq_true rfl, Nat.le_of_ble_eq_true rfl⟩, rb_f8_371⟩ (rb_cc2 ⟨⟨Nat.le_of_ble_eq_true rfl, Nat.le_of_ble_eq_true rfl⟩, rb_f8_374⟩ (rb_cc2 ⟨⟨Nat.le_of_ble_eq_true rfl, Nat.le_of_ble_eq_true rfl⟩, rb_f8_370⟩ (rb_cc2 ⟨⟨Nat.le_of_ble_eq_true rfl, Nat.le_of_ble_eq_true rfl⟩, rb_f8_351⟩ (rb_cc2 ⟨⟨Nat.le_of_ble_eq_true rfl, Nat.le_of_ble_eq_true rfl⟩, rb_f8_345⟩ (rb_cc2 ⟨⟨Nat.le_of_ble_eq_true rfl, Nat.le_of_ble_eq_true rfl⟩, rb_f8_12⟩ (rb_cc2 ⟨⟨Nat.le_of_ble_eq_true rfl, Nat.le_of_ble_eq_true rfl⟩, rb_f8_19⟩ (rb_cc2 ⟨⟨Nat.le_of_ble_eq_true rfl, Nat.le_of_ble_eq_true rfl⟩, rb_f8_26⟩ (rb_cc2 ⟨⟨Nat.le_of_ble_eq_true rfl, Nat.le_of_ble_eq_true rfl⟩, rb_f8_30⟩ (rb_cc2 ⟨⟨Nat.le_of_ble_eq_true rfl, Nat.le_of_ble_eq_true rfl⟩, rb_f8_36⟩ (rb_cc2 ⟨⟨Nat.le_of_ble_eq_true rfl, Nat.le_of_ble_eq_true rfl⟩, rb_f8_40⟩ (rb_cc2 ⟨⟨Nat.le_of_ble_eq_true rfl, Nat.le_of_ble_eq_true rfl⟩, rb_f8_43⟩ (rb_cc2 ⟨⟨Nat.le_of_ble_eq_true rfl, Nat.le_of_ble_eq_true rfl⟩, rb_f8_49⟩ (rb_cc2 ⟨⟨Nat.le_of_ble_eq_true rfl, Nat.le_of_ble_eq_true rfl⟩, rb_f8_53⟩ (rb_cc2 ⟨⟨Nat.le_of_ble_eq_true rfl, Nat.le_of_ble_eq_true rfl⟩, rb_f8_57⟩ (rb_cc2 ⟨⟨Nat.le_of_ble_eq_true rfl, Nat.le_of_ble_eq_true rfl⟩, rb_f8_66⟩ (rb_cc2 ⟨⟨Nat.le_of_ble_eq_true rfl, Nat.le_of_ble_eq_true rfl⟩, rb_f8_70⟩ (rb_cc2 ⟨⟨Nat.le_of_ble_eq_true rfl, Nat.le_of_ble_eq_true rfl⟩, rb_f8_76⟩ (rb_cc2 ⟨⟨Nat.le_of_ble_eq_true rfl, Nat.le_of_ble_eq_true rfl⟩, rb_f8_83⟩ (rb_cc2 ⟨⟨Nat.le_of_ble_eq_true rfl, Nat.le_of_ble_eq_true rfl⟩, rb_f8_87⟩ rb_nn))))))))))))))))))))))))))))))))
set_option maxRecDepth 100000 in
theorem rb_gl8 : ∀ q ∈ rb_glL.getD 8 [], rb_glw 8 q := (rb_cc2 ⟨Nat.le_of_ble_eq_true rfl, rb_g8_467⟩ (rb_cc2 ⟨Nat.le_of_ble_eq_true rfl, rb_g8_470⟩ (rb_cc2 ⟨Nat.le_of_ble_eq_true rfl, rb_g8_458⟩ (rb_cc2 ⟨Nat.le_of_ble_eq_true rfl, rb_g8_461⟩ (rb_cc2 ⟨Nat.le_of_ble_eq_true rfl, rb_g8_449⟩ (rb_cc2 ⟨Nat.le_of_ble_eq_true rfl, rb_g8_360⟩ (rb_cc2 ⟨Nat.le_of_ble_eq_true rfl, rb_g8_417⟩ (rb_cc2 ⟨Nat.le_of_ble_eq_true rfl, rb_g8_420⟩ rb_nn))))))))
set_option maxRecDepth 100000 in
theorem rb_ml8 : ∀ q ∈ rb_mlL.getD 8 [], rb_lk 8 q.1 q.2.1 q.2.2 := (rb_cc2 rb_l8_90 (rb_cc2 rb_l8_98 (rb_cc2 rb_l8_101 (rb_cc2 rb_l8_105 (rb_cc2 rb_l8_113 (rb_cc2 rb_l8_121 (rb_cc2 rb_l8_126 (rb_cc2 rb_l8_132 (rb_cc2 rb_l8_136 (rb_cc2 rb_l8_149 (rb_cc2 rb_l8_152 (rb_cc2 rb_l8_445 (rb_cc2 rb_l8_139 (rb_cc2 rb_l8_156 (rb_cc2 rb_l8_142 (rb_cc2 rb_l8_145 (rb_cc2 rb_l8_110 (rb_cc2 rb_l8_159 (rb_cc2 rb_l8_163 (rb_cc2 rb_l8_200 (rb_cc2 rb_l8_212 (rb_cc2 rb_l8_215 (rb_cc2 rb_l8_218 (rb_cc2 rb_l8_221 (rb_cc2 rb_l8_166 (rb_cc2 rb_l8_195 (rb_cc2 rb_l8_230 (rb_cc2 rb_l8_233 (rb_cc2 rb_l8_473 (rb_cc2 rb_l8_452 (rb_cc2 rb_l8_476 (rb_cc2 rb_l8_387 (rb_cc2 rb_l8_464 (rb_cc2 rb_l8_236 (rb_cc2 rb_l8_480 (rb_cc2 rb_l8_483 (rb_cc2 rb_l8_240 (rb_cc2 rb_l8_224 (rb_cc2 rb_l8_226 (rb_cc2 rb_l8_358 (rb_cc2 rb_l8_243 (rb_cc2 rb_l8_246 (rb_cc2 rb_l8_249 (rb_cc2 rb_l8_252 (rb_cc2 rb_l8_258 (rb_cc2 rb_l8_262 (rb_cc2 rb_l8_265 (rb_cc2 rb_l8_268 (rb_cc2 rb_l8_274 (rb_cc2 rb_l8_271 (rb_cc2 rb_l8_290 (rb_cc2 rb_l8_293 (rb_cc2 rb_l8_298 (rb_cc2 rb_l8_301 (rb_cc2 rb_l8_306 (rb_cc2 rb_l8_310 (rb_cc2 rb_l8_314 (rb_cc2 rb_l8_318 (rb_cc2 rb_l8_189 (rb_cc2 rb_l8_321 (rb_cc2 rb_l8_324 (rb_cc2 rb_l8_328 (rb_cc2 rb_l8_208 (rb_cc2 rb_l8_331 (rb_cc2 rb_l8_335 (rb_cc2 rb_l8_338 (rb_cc2 rb_l8_341 (rb_cc2 rb_l8_348 (rb_cc2 rb_l8_354 (rb_cc2 rb_l8_363 (rb_cc2 rb_l8_365 (rb_cc2 rb_l8_367 (rb_cc2 rb_l8_377 (rb_cc2 rb_l8_380 (rb_cc2 rb_l8_384 (rb_cc2 rb_l8_390 (rb_cc2 rb_l8_393 (rb_cc2 rb_l8_396 (rb_cc2 rb_l8_399 (rb_cc2 rb_l8_402 (rb_cc2 rb_l8_408 (rb_cc2 rb_l8_412 (rb_cc2 rb_l8_414 (rb_cc2 rb_l8_423 (rb_cc2 rb_l8_426 (rb_cc2 rb_l8_429 (rb_cc2 rb_l8_432 rb_nn)))))))))))))))))))))))))))))))))))))))))))))))))))))))))))))))))))))))))))))))))))))))
set_option maxRecDepth 100000 in
theorem rb_cs8 : ∀ q ∈ rb_csL.getD 8 [], rb_csw 8 q := (rb_cc2 (rb_w3 108 rfl rfl) (rb_cc2 (rb_w3 109 rfl rfl) (rb_cc2 (rb_w3 110 rfl rfl) (rb_cc2 (rb_w5 11 rfl rfl) (rb_cc2 (rb_w5 51 rfl rfl) (rb_cc2 ⟨Nat.le_of_ble_eq_true rfl, Nat.le_of_ble_eq_true rfl, rfl, rfl⟩ (rb_cc2 ⟨Nat.le_of_ble_eq_true rfl, Nat.le_of_ble_eq_true rfl, rfl, rfl⟩ (rb_cc2 ⟨Nat.le_of_ble_eq_true rfl, Nat.le_of_ble_eq_true rfl, rfl, rfl⟩ (rb_cc2 ⟨Nat.le_of_ble_eq_true rfl, Nat.le_of_ble_eq_true rfl, rfl, rfl⟩ (rb_cc2 ⟨Nat.le_of_ble_eq_true rfl, Nat.le_of_ble_eq_true rfl, rfl, rfl⟩ (rb_cc2 ⟨Nat.le_of_ble_eq_true rfl, Nat.le_of_ble_eq_true rfl, rfl, rfl⟩ (rb_cc2 ⟨Nat.le_of_ble_eq_true rfl, Nat.le_of_ble_eq_true rfl, rfl, rfl⟩ (rb_cc2 ⟨Nat.le_of_ble_eq_true rfl, Nat.le_of_ble_eq_true rfl, rfl, rfl⟩ (rb_cc2 ⟨Nat.le_of_ble_eq_true rfl, Nat.le_of_ble_eq_true rfl, rfl, rfl⟩ (rb_cc2 ⟨Nat.le_of_ble_eq_true rfl, Nat.le_of_ble_eq_true rfl, rfl, rfl⟩ (rb_cc2 ⟨Nat.le_of_ble_eq_true rfl, Nat.le_of_ble_eq_true rfl, rfl, rfl⟩ (rb_cc2 ⟨Nat.le_of_ble_eq_true rfl, Nat.le_of_ble_eq_true rfl, rfl, rfl⟩ (rb_cc2 ⟨Nat.le_of_ble_eq_true rfl, Nat.le_of_ble_eq_true rfl, rfl, rfl⟩ rb_nn))))))))))))))))))
theorem rb_l9_112 : rb_lk 9 112 0 172 := (rb_w6 83 rfl rfl)
theorem rb_l9_169 : rb_lk 9 169 0 174 := (rb_w6 90 rfl rfl)
theorem rb_l9_134 : rb_lk 9 134 0 175 := (rb_w6 94 rfl rfl)
theorem rb_l9_138 : rb_lk 9 138 0 176 := (rb_w6 98 rfl rfl)
theorem rb_l9_150 : rb_lk 9 150 0 177 := (rb_w6 102 rfl rfl)
theorem rb_l9_172 : rb_lk 9 172 0 178 := (rb_w6 106 rfl rfl)
theorem rb_l9_142 : rb_lk 9 142 0 179 := (rb_w6 110 rfl rfl)
theorem rb_l9_158 : rb_lk 9 158 0 180 := (rb_w6 114 rfl rfl)
theorem rb_l9_162 : rb_lk 9 162 0 181 := (rb_w6 117 rfl rfl)
theorem rb_l9_154 : rb_lk 9 154 0 182 := (rb_w6 121 rfl rfl)
theorem rb_l9_165 : rb_lk 9 165 0 183 := (rb_w6 125 rfl rfl)
theorem rb_l9_146 : rb_lk 9 146 0 184 := (rb_w6 129 rfl rfl)
theorem rb_l9_175 : rb_lk 9 175 0 185 := (rb_w6 133 rfl rfl)
theorem rb_l9_210 : rb_lk 9 210 0 187 := (rb_w6 141 rfl rfl)
theorem rb_l9_193 : rb_lk 9 193 0 188 := (rb_w6 145 rfl rfl)
theorem rb_l9_184 : rb_lk 9 184 0 189 := (rb_w6 149 rfl rfl)
theorem rb_l9_187 : rb_lk 9 187 0 190 := (rb_w6 153 rfl rfl)
theorem rb_l9_190 : rb_lk 9 190 0 191 := (rb_w6 157 rfl rfl)
theorem rb_l9_196 : rb_lk 9 196 0 192 := (rb_w6 161 rfl rfl)
theorem rb_l9_200 : rb_lk 9 200 0 193 := (rb_w6 165 rfl rfl)
theorem rb_l9_203 : rb_lk 9 203 0 194 := (rb_w6 169 rfl rfl)
theorem rb_l9_239 : rb_lk 9 239 0 196 := (rb_w6 176 rfl rfl)
theorem rb_l9_243 : rb_lk 9 243 0 197 := (rb_w6 180 rfl rfl)
theorem rb_l9_228 : rb_lk 9 228 0 198 := (rb_w6 184 rfl rfl)
theorem rb_l9_246 : rb_lk 9 246 0 199 := (rb_w6 187 rfl rfl)
theorem rb_l9_225 : rb_lk 9 225 0 200 := (rb_w6 191 rfl rfl)
theorem rb_l9_216 : rb_lk 9 216 0 3 := (rb_w6 194 rfl rfl)
theorem rb_l9_221 : rb_lk 9 221 0 1 := (rb_w6 197 rfl rfl)
theorem rb_l9_232 : rb_lk 9 232 0 201 := (rb_w6 198 rfl rfl)
theorem rb_l9_236 : rb_lk 9 236 0 2 := (rb_w6 201 rfl rfl)
theorem rb_l9_250 : rb_lk 9 250 0 203 := (rb_w6 206 rfl rfl)
theorem rb_l9_253 : rb_lk 9 253 0 206 := (rb_w6 217 rfl rfl)
theorem rb_l9_276 : rb_lk 9 276 0 208 := (rb_w6 225 rfl rfl)
theorem rb_l9_272 : rb_lk 9 272 0 209 := (rb_w6 229 rfl rfl)
theorem rb_l9_265 : rb_lk 9 265 0 210 := (rb_w6 233 rfl rfl)
theorem rb_l9_261 : rb_lk 9 261 0 211 := (rb_w6 237 rfl rfl)
theorem rb_l9_256 : rb_lk 9 256 0 212 := (rb_w7 1 rfl rfl)
theorem rb_l9_279 : rb_lk 9 279 0 213 := (rb_w7 4 rfl rfl)
theorem rb_l9_268 : rb_lk 9 268 0 214 := (rb_w7 8 rfl rfl)
theorem rb_l9_283 : rb_lk 9 283 0 215 := (rb_w7 11 rfl rfl)
theorem rb_l9_286 : rb_lk 9 286 0 216 := (rb_w7 15 rfl rfl)
theorem rb_l9_300 : rb_lk 9 300 0 218 := (rb_w7 23 rfl rfl)
theorem rb_l9_293 : rb_lk 9 293 0 219 := (rb_w7 27 rfl rfl)
theorem rb_l9_297 : rb_lk 9 297 0 79 := (rb_w7 31 rfl rfl)
theorem rb_l9_303 : rb_lk 9 303 0 222 := (rb_w7 40 rfl rfl)
theorem rb_l9_307 : rb_lk 9 307 0 223 := (rb_w7 44 rfl rfl)
theorem rb_l9_311 : rb_lk 9 311 0 225 := (rb_w7 52 rfl rfl)
theorem rb_l9_314 : rb_lk 9 314 0 226 := (rb_w7 55 rfl rfl)
theorem rb_l9_317 : rb_lk 9 317 0 228 := (rb_w7 63 rfl rfl)
theorem rb_l9_320 : rb_lk 9 320 0 229 := (rb_w7 67 rfl rfl)
theorem rb_l9_323 : rb_lk 9 323 0 230 := (rb_w7 71 rfl rfl)
theorem rb_l9_326 : rb_lk 9 326 0 233 := (rb_w7 83 rfl rfl)
theorem rb_l9_329 : rb_lk 9 329 0 234 := (rb_w7 87 rfl rfl)
theorem rb_l9_333 : rb_lk 9 333 0 237 := (rb_w7 99 rfl rfl)
theorem rb_l9_336 : rb_lk 9 336 0 241 := (rb_w7 115 rfl rfl)
theorem rb_l9_339 : rb_lk 9 339 0 246 := (rb_w7 135 rfl rfl)
theorem rb_l9_342 : rb_lk 9 342 0 247 := (rb_w7 139 rfl rfl)
theorem rb_l9_351 : rb_lk 9 351 0 250 := (rb_w7 151 rfl rfl)
theorem rb_l9_345 : rb_lk 9 345 0 251 := (rb_w7 155 rfl rfl)
theorem rb_l9_348 : rb_lk 9 348 0 252 := (rb_w7 159 rfl rfl)
theorem rb_l9_354 : rb_lk 9 354 0 256 := (rb_w7 175 rfl rfl)
theorem rb_l9_363 : rb_lk 9 363 0 259 := (rb_w7 186 rfl rfl)
theorem rb_l9_360 : rb_lk 9 360 0 260 := (rb_w7 190 rfl rfl)
theorem rb_l9_372 : rb_lk 9 372 0 265 := (rb_w7 210 rfl rfl)
theorem rb_l9_369 : rb_lk 9 369 0 266 := (rb_w7 214 rfl rfl)
theorem rb_l9_375 : rb_lk 9 375 0 269 := (rb_w7 226 rfl rfl)
theorem rb_l9_385 : rb_lk 9 385 0 271 := (rb_w7 233 rfl rfl)
theorem rb_l9_381 : rb_lk 9 381 0 272 := (rb_w7 237 rfl rfl)
theorem rb_l9_391 : rb_lk 9 391 0 274 := (rb_w8 5 rfl rfl)
theorem rb_l9_388 : rb_lk 9 388 0 275 := (rb_w8 8 rfl rfl)
theorem rb_l9_394 : rb_lk 9 394 0 277 := (rb_w8 15 rfl rfl)
theorem rb_l9_401 : rb_lk 9 401 0 279 := (rb_w8 23 rfl rfl)
set_option maxRecDepth 100000 in
theorem rb_fl9 : ∀ q ∈ rb_flL.getD 9 [], rb_flw 9 q := (rb_cc2 ⟨⟨Nat.le_of_ble_eq_true rfl, Nat.le_of_ble_eq_true rfl⟩, rb_f9_9⟩ (rb_cc2 ⟨⟨Nat.le_of_ble_eq_true rfl, Nat.le_of_ble_eq_true rfl⟩, rb_f9_13⟩ (rb_cc2 ⟨⟨Nat.le_of_ble_eq_true rfl, Nat.le_of_ble_eq_true rfl⟩, rb_f9_109⟩ (rb_cc2 ⟨⟨Nat.le_of_ble_eq_true rfl, Nat.le_of_ble_eq_true rfl⟩, rb_f9_16⟩ (rb_cc2 ⟨⟨Nat.le_of_ble_eq_true rfl, Nat.le_of_ble_eq_true rfl⟩, rb_f9_116⟩ (rb_cc2 ⟨⟨Nat.le_of_ble_eq_true rfl, Nat.le_of_ble_eq_true rfl⟩, rb_f9_20⟩ (rb_cc2 ⟨⟨Nat.le_of_ble_eq_true rfl, Nat.le_of_ble_eq_true rfl⟩, rb_f9_106⟩ (rb_cc2 ⟨⟨Nat.le_of_ble_eq_true rfl, Nat.le_of_ble_eq_true rfl⟩, rb_f9_102⟩ (rb_cc2 ⟨⟨Nat.le_of_ble_eq_true rfl, Nat.le_of_ble_eq_true rfl⟩, rb_f9_119⟩ (rb_cc2 ⟨⟨Nat.le_of_ble_eq_true rfl, Nat.le_of_ble_eq_true rfl⟩, rb_f9_122⟩ (rb_cc2 ⟨⟨Nat.le_of_ble_eq_true rfl, Nat.le_of_ble_eq_true rfl⟩, rb_f9_125⟩ (rb_cc2 ⟨⟨Nat.le_of_ble_eq_true rfl, Nat.le_of_ble_eq_true rfl⟩, rb_f9_128⟩ (rb_cc2 ⟨⟨Nat.le_of_ble_eq_true rfl, Nat.le_of_ble_eq_true rfl⟩, rb_f9_131⟩ (rb_cc2 ⟨⟨Nat.le_of_ble_eq_true rfl, Nat.le_of_ble_eq_true rfl⟩, rb_f9_24⟩ (rb_cc2 ⟨⟨Nat.le_of_ble_eq_true rfl, Nat.le_of_ble_eq_true rfl⟩, rb_f9_27⟩ (rb_cc2 ⟨⟨Nat.le_of_ble_eq_true rfl, Nat.le_of_ble_eq_true rfl⟩, rb_f9_30⟩ (rb_cc2 ⟨⟨Nat.le_of_ble_eq_true rfl, Nat.le_of_ble_eq_true rfl⟩, rb_f9_213⟩ (rb_cc2 ⟨⟨Nat.le_of_ble_eq_true rfl, Nat.le_of_ble_eq_true rfl⟩, rb_f9_206⟩ (rb_cc2 ⟨⟨Nat.le_of_ble_eq_true rfl, Nat.le_of_ble_eq_true rfl⟩, rb_f9_33⟩ (rb_cc2 ⟨⟨Nat.le_of_ble_eq_true rfl, Nat.le_of_ble_eq_true rfl⟩, rb_f9_36⟩ (rb_cc2 ⟨⟨Nat.le_of_ble_eq_true rfl, Nat.le_of_ble_eq_true rfl⟩, rb_f9_178⟩ (rb_cc2 ⟨⟨Nat.le_of_ble_eq_true rfl, Nat.le_of_ble_eq_true rfl⟩, rb_f9_39⟩ (rb_cc2 ⟨⟨Nat.le_of_ble_eq_true rfl, Nat.le_of_ble_eq_true rfl⟩, rb_f9_42⟩ (rb_cc2 ⟨⟨Nat.le_of_ble_eq_true rfl, Nat.le_of_ble_eq_true rfl⟩, rb_f9_45⟩ (rb_cc2 ⟨⟨Nat.le_of_ble_eq_true rfl, Nat.le_of_ble_eq_true rfl⟩, rb_f9_290⟩ (rb_cc2 ⟨⟨Nat.le_of_ble_eq_true rfl, Nat.le_of_ble_eq_true rfl⟩, rb_f9_48⟩ (rb_cc2 ⟨⟨Nat.le_of_ble_eq_true rfl, Nat.le_of_ble_eq_true rfl⟩, rb_f9_51⟩ (rb_cc2 ⟨⟨Nat.le_of_ble_eq_true rfl, Nat.le_of_ble_eq_true rfl⟩, rb_f9_54⟩ (rb_cc2 ⟨⟨Nat.le_of_ble_eq_true rfl, Nat.le_of_ble_eq_true rfl⟩, rb_f9_57⟩ (rb_cc2 ⟨⟨Nat.le_of_ble_eq_true rfl, Nat.le_of_ble_eq_true rfl⟩, rb_f9_62⟩ (rb_cc2 ⟨⟨Nat.le_of_ble_eq_true rfl, Nat.le_of_ble_eq_true rfl⟩, rb_f9_65⟩ (rb_cc2 ⟨⟨Nat.le_of_ble_eq_true rfl, Nat.le_of_ble_eq_true rfl⟩, rb_f9_68⟩ (rb_cc2 ⟨⟨Nat.le_of_ble_eq_true rfl, Nat.le_of_ble_eq_true rfl⟩, rb_f9_71⟩ (rb_cc2 ⟨⟨Nat.le_of_ble_eq_true rfl, Nat.le_of_ble_eq_true rfl⟩, rb_f9_74⟩ (rb_cc2 ⟨⟨Nat.le_of_ble_eq_true rfl, Nat.le_of_ble_eq_true rfl⟩, rb_f9_77⟩ (rb_cc2 ⟨⟨Nat.le_of_ble_eq_true rfl, Nat.le_of_ble_eq_true rfl⟩, rb_f9_357⟩ (rb_cc2 ⟨⟨Nat.le_of_ble_eq_true rfl, Nat.le_of_ble_eq_true rfl⟩, rb_f9_80⟩ (rb_cc2 ⟨⟨Nat.le_of_ble_eq_true rfl, Nat.le_of_ble_eq_true rfl⟩, rb_f9_83⟩ (rb_cc2 ⟨⟨Nat.le_of_ble_eq_true rfl, Nat.le_of_ble_eq_true rfl⟩, rb_f9_366⟩ (rb_cc2 ⟨⟨Nat.le_of_ble_eq_true rfl, Nat.le_of_ble_eq_true rfl⟩, rb_f9_86⟩ (rb_cc2 ⟨⟨Nat.le_of_ble_eq_true rfl, Nat.le_of_ble_eq_true rfl⟩, rb_f9_89⟩ (rb_cc2 ⟨⟨Nat.le_of_ble_eq_true rfl, Nat.le_of_ble_eq_true rfl⟩, rb_f9_397⟩ (rb_cc2 ⟨⟨Nat.le_of_ble_eq_true rfl, Nat.le_of_ble_eq_true rfl⟩, rb_f9_181⟩ (rb_cc2 ⟨⟨Nat.le_of_ble_eq_true rfl, Nat.le_of_ble_eq_true rfl⟩, rb_f9_93⟩ (rb_cc2 ⟨⟨Nat.le_of_ble_eq_true rfl, Nat.le_of_ble_eq_true rfl⟩, rb_f9_96⟩ (rb_cc2 ⟨⟨Nat.le_of_ble_eq_true rfl, Nat.le_of_ble_eq_true rfl⟩, rb_f9_99⟩ rb_nn))))))))))))))))))))))))))))))))))))))))))))))
set_option maxRecDepth 100000 in
theorem rb_gl9 : ∀ q ∈ rb_glL.getD 9 [], rb_glw 9 q := rb_nn
set_option maxRecDepth 100000 in
theorem rb_ml9 : ∀ q ∈ rb_mlL.getD 9 [], rb_lk 9 q.1 q.2.1 q.2.2 := (rb_cc2 rb_l9_112 (rb_cc2 rb_l9_169 (rb_cc2 rb_l9_134 (rb_cc2 rb_l9_138 (rb_cc2 rb_l9_150 (rb_cc2 rb_l9_172 (rb_cc2 rb_l9_142 (rb_cc2 rb_l9_158 (rb_cc2 rb_l9_162 (rb_cc2 rb_l9_154 (rb_cc2 rb_l9_165 (rb_cc2 rb_l9_146 (rb_cc2 rb_l9_175 (rb_cc2 rb_l9_210 (rb_cc2 rb_l9_193 (rb_cc2 rb_l9_184 (rb_cc2 rb_l9_187 (rb_cc2 rb_l9_190 (rb_cc2 rb_l9_196 (rb_cc2 rb_l9_200 (rb_cc2 rb_l9_203 (rb_cc2 rb_l9_239 (rb_cc2 rb_l9_243 (rb_cc2 rb_l9_228 (rb_cc2 rb_l9_246 (rb_cc2 rb_l9_225 (rb_cc2 rb_l9_216 (rb_cc2 rb_l9_221 (rb_cc2 rb_l9_232 (rb_cc2 rb_l9_236 (rb_cc2 rb_l9_250 (rb_cc2 rb_l9_253 (rb_cc2 rb_l9_276 (rb_cc2 rb_l9_272 (rb_cc2 rb_l9_265 (rb_cc2 rb_l9_261 (rb_cc2 rb_l9_256 (rb_cc2 rb_l9_279 (rb_cc2 rb_l9_268 (rb_cc2 rb_l9_283 (rb_cc2 rb_l9_286 (rb_cc2 rb_l9_300 (rb_cc2 rb_l9_293 (rb_cc2 rb_l9_297 (rb_cc2 rb_l9_303 (rb_cc2 rb_l9_307 (rb_cc2 rb_l9_311 (rb_cc2 rb_l9_314 (rb_cc2 rb_l9_317 (rb_cc2 rb_l9_320 (rb_cc2 rb_l9_323 (rb_cc2 rb_l9_326 (rb_cc2 rb_l9_329 (rb_cc2 rb_l9_333 (rb_cc2 rb_l9_336 (rb_cc2 rb_l9_339 (rb_cc2 rb_l9_342 (rb_cc2 rb_l9_351 (rb_cc2 rb_l9_345 (rb_cc2 rb_l9_348 (rb_cc2 rb_l9_354 (rb_cc2 rb_l9_363 (rb_cc2 rb_l9_360 (rb_cc2 rb_l9_372 (rb_cc2 rb_l9_369 (rb_cc2 rb_l9_375 (rb_cc2 rb_l9_385 (rb_cc2 rb_l9_381 (rb_cc2 rb_l9_391 (rb_cc2 rb_l9_388 (rb_cc2 rb_l9_394 (rb_cc2 rb_l9_401 rb_nn))))))))))))))))))))))))))))))))))))))))))))))))))))))))))))))))))))))))
set_option maxRecDepth 100000 in
theorem rb_cs9 : ∀ q ∈ rb_csL.getD 9 [], rb_csw 9 q := (rb_cc2 (rb_w7 98 rfl rfl) (rb_cc2 (rb_w7 225 rfl rfl) (rb_cc2 (rb_w8 27 rfl rfl) rb_nn)))
theorem rb_l10_335 : rb_lk 10 335 0 11 := (rb_w1 75 rfl rfl)
theorem rb_l10_633 : rb_lk 10 633 0 22 := (rb_w2 116 rfl rfl)
theorem rb_l10_492 : rb_lk 10 492 0 23 := (rb_w2 120 rfl rfl)
theorem rb_l10_505 : rb_lk 10 505 0 10 := (rb_w2 124 rfl rfl)
theorem rb_l10_637 : rb_lk 10 637 0 24 := (rb_w2 125 rfl rfl)
theorem rb_l10_495 : rb_lk 10 495 0 28 := (rb_w2 191 rfl rfl)
theorem rb_l10_1059 : rb_lk 10 1059 0 30 := (rb_w2 197 rfl rfl)
set_option maxRecDepth 100000 in
theorem rb_fl10 : ∀ q ∈ rb_flL.getD 10 [], rb_flw 10 q := rb_nn
set_option maxRecDepth 100000 in
theorem rb_gl10 : ∀ q ∈ rb_glL.getD 10 [], rb_glw 10 q := rb_nn
set_option maxRecDepth 100000 in
theorem rb_ml10 : ∀ q ∈ rb_mlL.getD 10 [], rb_lk 10 q.1 q.2.1 q.2.2 := (rb_cc2 rb_l10_335 (rb_cc2 rb_l10_633 (rb_cc2 rb_l10_492 (rb_cc2 rb_l10_505 (rb_cc2 rb_l10_637 (rb_cc2 rb_l10_495 (rb_cc2 rb_l10_1059 rb_nn)))))))
set_option maxRecDepth 100000 in
theorem rb_cs10 : ∀ q ∈ rb_csL.getD 10 [], rb_csw 10 q := rb_nn
theorem rb_l11_88 : rb_lk 11 88 0 25 := (rb_w2 128 rfl rfl)
theorem rb_l11_92 : rb_lk 11 92 0 1 := (rb_w2 131 rfl rfl)
theorem rb_l11_38 : rb_lk 11 38 0 2 := (rb_w2 134 rfl rfl)
theorem rb_l11_95 : rb_lk 11 95 0 26 := (rb_w2 135 rfl rfl)
theorem rb_l11_9 : rb_lk 11 9 0 29 := (rb_w2 194 rfl rfl)
set_option maxRecDepth 100000 in
theorem rb_fl11 : ∀ q ∈ rb_flL.getD 11 [], rb_flw 11 q := rb_nn
set_option maxRecDepth 100000 in
theorem rb_gl11 : ∀ q ∈ rb_glL.getD 11 [], rb_glw 11 q := rb_nn
set_option maxRecDepth 100000 in
theorem rb_ml11 : ∀ q ∈ rb_mlL.getD 11 [], rb_lk 11 q.1 q.2.1 q.2.2 := (rb_cc2 rb_l11_88 (rb_cc2 rb_l11_92 (rb_cc2 rb_l11_38 (rb_cc2 rb_l11_95 (rb_cc2 rb_l11_9 rb_nn)))))
set_option maxRecDepth 100000 in
theorem rb_cs11 : ∀ q ∈ rb_csL.getD 11 [], rb_csw 11 q := rb_nn
set_option maxRecDepth 100000 in
theorem rb_fl12 : ∀ q ∈ rb_flL.getD 12 [], rb_flw 12 q := rb_nn
set_option maxRecDepth 100000 in
theorem rb_gl12 : ∀ q ∈ rb_glL.getD 12 [], rb_glw 12 q := rb_nn
set_option maxRecDepth 100000 in
theorem rb_ml12 : ∀ q ∈ rb_mlL.getD 12 [], rb_lk 12 q.1 q.2.1 q.2.2 := rb_nn
set_option maxRecDepth 100000 in
theorem rb_cs12 : ∀ q ∈ rb_csL.getD 12 [], rb_csw 12 q := (rb_cc2 (rb_w3 173 rfl rfl) (rb_cc2 (rb_w3 174 rfl rfl) (rb_cc2 (rb_w3 175 rfl rfl) rb_nn)))
set_option maxRecDepth 100000 in
theorem rb_fl13 : ∀ q ∈ rb_flL.getD 13 [], rb_flw 13 q := rb_nn
set_option maxRecDepth 100000 in
theorem rb_gl13 : ∀ q ∈ rb_glL.getD 13 [], rb_glw 13 q := rb_nn
set_option maxRecDepth 100000 in
theorem rb_ml13 : ∀ q ∈ rb_mlL.getD 13 [], rb_lk 13 q.1 q.2.1 q.2.2 := rb_nn
set_option maxRecDepth 100000 in
theorem rb_cs13 : ∀ q ∈ rb_csL.getD 13 [], rb_csw 13 q := rb_nn
theorem rb_l14_30 : rb_lk 14 30 0 12 := (rb_w2 67 rfl rfl)
theorem rb_l14_34 : rb_lk 14 34 0 14 := (rb_w2 75 rfl rfl)
theorem rb_l14_39 : rb_lk 14 39 0 16 := (rb_w2 83 rfl rfl)
theorem rb_l14_44 : rb_lk 14 44 0 39 := (rb_w2 238 rfl rfl)
theorem rb_l14_64 : rb_lk 14 64 0 51 := (rb_w3 51 rfl rfl)
theorem rb_l14_69 : rb_lk 14 69 0 57 := (rb_w3 73 rfl rfl)
theorem rb_l14_73 : rb_lk 14 73 0 76 := (rb_w3 158 rfl rfl)
theorem rb_l14_77 : rb_lk 14 77 0 90 := (rb_w3 218 rfl rfl)
theorem rb_l14_81 : rb_lk 14 81 0 92 := (rb_w3 226 rfl rfl)
theorem rb_l14_86 : rb_lk 14 86 0 94 := (rb_w3 234 rfl rfl)
theorem rb_l14_90 : rb_lk 14 90 0 97 := (rb_w4 5 rfl rfl)
theorem rb_l14_94 : rb_lk 14 94 0 101 := (rb_w4 27 rfl rfl)
theorem rb_l14_98 : rb_lk 14 98 0 103 := (rb_w4 35 rfl rfl)
theorem rb_l14_102 : rb_lk 14 102 0 104 := (rb_w4 41 rfl rfl)
theorem rb_l14_106 : rb_lk 14 106 0 105 := (rb_w4 45 rfl rfl)
theorem rb_l14_110 : rb_lk 14 110 0 111 := (rb_w4 74 rfl rfl)
theorem rb_l14_114 : rb_lk 14 114 0 115 := (rb_w4 90 rfl rfl)
theorem rb_l14_118 : rb_lk 14 118 0 117 := (rb_w4 98 rfl rfl)
theorem rb_l14_122 : rb_lk 14 122 0 118 := (rb_w4 103 rfl rfl)
theorem rb_l14_126 : rb_lk 14 126 0 119 := (rb_w4 108 rfl rfl)
theorem rb_l14_130 : rb_lk 14 130 0 120 := (rb_w4 112 rfl rfl)
theorem rb_l14_134 : rb_lk 14 134 0 121 := (rb_w4 118 rfl rfl)
theorem rb_l14_138 : rb_lk 14 138 0 125 := (rb_w4 135 rfl rfl)
theorem rb_l14_142 : rb_lk 14 142 0 127 := (rb_w4 143 rfl rfl)
theorem rb_l14_146 : rb_lk 14 146 0 130 := (rb_w4 160 rfl rfl)
theorem rb_l14_150 : rb_lk 14 150 0 132 := (rb_w4 170 rfl rfl)
theorem rb_l14_154 : rb_lk 14 154 0 133 := (rb_w4 174 rfl rfl)
theorem rb_l14_158 : rb_lk 14 158 0 135 := (rb_w4 184 rfl rfl)
theorem rb_l14_162 : rb_lk 14 162 0 137 := (rb_w4 192 rfl rfl)
theorem rb_l14_166 : rb_lk 14 166 0 141 := (rb_w4 209 rfl rfl)
theorem rb_l14_170 : rb_lk 14 170 0 142 := (rb_w4 213 rfl rfl)
theorem rb_l14_174 : rb_lk 14 174 0 143 := (rb_w4 217 rfl rfl)
theorem rb_l14_178 : rb_lk 14 178 0 144 := (rb_w4 221 rfl rfl)
theorem rb_l14_182 : rb_lk 14 182 0 147 := (rb_w4 232 rfl rfl)
theorem rb_l14_186 : rb_lk 14 186 0 149 := (rb_w5 0 rfl rfl)
theorem rb_l14_190 : rb_lk 14 190 0 153 := (rb_w5 18 rfl rfl)
theorem rb_l14_194 : rb_lk 14 194 0 155 := (rb_w5 30 rfl rfl)
theorem rb_l14_198 : rb_lk 14 198 0 158 := (rb_w5 40 rfl rfl)
theorem rb_l14_202 : rb_lk 14 202 0 159 := (rb_w5 44 rfl rfl)
theorem rb_l14_206 : rb_lk 14 206 0 162 := (rb_w5 55 rfl rfl)
theorem rb_l14_210 : rb_lk 14 210 0 163 := (rb_w5 59 rfl rfl)
theorem rb_l14_214 : rb_lk 14 214 0 164 := (rb_w5 63 rfl rfl)
theorem rb_l14_7 : rb_lk 14 7 0 165 := (rb_w5 71 rfl rfl)
theorem rb_l14_15 : rb_lk 14 15 0 166 := (rb_w5 144 rfl rfl)
theorem rb_l14_19 : rb_lk 14 19 0 167 := (rb_w5 152 rfl rfl)
theorem rb_l14_22 : rb_lk 14 22 0 168 := (rb_w5 160 rfl rfl)
theorem rb_l14_54 : rb_lk 14 54 0 169 := (rb_w6 71 rfl rfl)
theorem rb_l14_33 : rb_lk 14 33 0 170 := (rb_w6 75 rfl rfl)
theorem rb_l14_38 : rb_lk 14 38 0 171 := (rb_w6 79 rfl rfl)
theorem rb_l14_43 : rb_lk 14 43 0 173 := (rb_w6 86 rfl rfl)
theorem rb_l14_47 : rb_lk 14 47 0 186 := (rb_w6 137 rfl rfl)
theorem rb_l14_53 : rb_lk 14 53 0 195 := (rb_w6 172 rfl rfl)
theorem rb_l14_60 : rb_lk 14 60 0 202 := (rb_w6 202 rfl rfl)
theorem rb_l14_63 : rb_lk 14 63 0 204 := (rb_w6 209 rfl rfl)
theorem rb_l14_68 : rb_lk 14 68 0 205 := (rb_w6 213 rfl rfl)
theorem rb_l14_72 : rb_lk 14 72 0 207 := (rb_w6 221 rfl rfl)
theorem rb_l14_76 : rb_lk 14 76 0 217 := (rb_w7 19 rfl rfl)
theorem rb_l14_80 : rb_lk 14 80 0 220 := (rb_w7 32 rfl rfl)
theorem rb_l14_85 : rb_lk 14 85 0 221 := (rb_w7 36 rfl rfl)
theorem rb_l14_89 : rb_lk 14 89 0 224 := (rb_w7 48 rfl rfl)
theorem rb_l14_93 : rb_lk 14 93 0 227 := (rb_w7 59 rfl rfl)
theorem rb_l14_97 : rb_lk 14 97 0 231 := (rb_w7 75 rfl rfl)
theorem rb_l14_101 : rb_lk 14 101 0 232 := (rb_w7 79 rfl rfl)
theorem rb_l14_105 : rb_lk 14 105 0 235 := (rb_w7 90 rfl rfl)
theorem rb_l14_109 : rb_lk 14 109 0 236 := (rb_w7 94 rfl rfl)
theorem rb_l14_113 : rb_lk 14 113 0 238 := (rb_w7 103 rfl rfl)
theorem rb_l14_117 : rb_lk 14 117 0 239 := (rb_w7 107 rfl rfl)
theorem rb_l14_121 : rb_lk 14 121 0 240 := (rb_w7 111 rfl rfl)
theorem rb_l14_125 : rb_lk 14 125 0 242 := (rb_w7 119 rfl rfl)
theorem rb_l14_129 : rb_lk 14 129 0 243 := (rb_w7 123 rfl rfl)
theorem rb_l14_133 : rb_lk 14 133 0 244 := (rb_w7 127 rfl rfl)
theorem rb_l14_137 : rb_lk 14 137 0 245 := (rb_w7 131 rfl rfl)
theorem rb_l14_141 : rb_lk 14 141 0 248 := (rb_w7 143 rfl rfl)
theorem rb_l14_145 : rb_lk 14 145 0 249 := (rb_w7 147 rfl rfl)
theorem rb_l14_149 : rb_lk 14 149 0 253 := (rb_w7 163 rfl rfl)
theorem rb_l14_153 : rb_lk 14 153 0 254 := (rb_w7 167 rfl rfl)
theorem rb_l14_157 : rb_lk 14 157 0 255 := (rb_w7 171 rfl rfl)
theorem rb_l14_161 : rb_lk 14 161 0 257 := (rb_w7 178 rfl rfl)
theorem rb_l14_165 : rb_lk 14 165 0 258 := (rb_w7 182 rfl rfl)
theorem rb_l14_169 : rb_lk 14 169 0 261 := (rb_w7 194 rfl rfl)
theorem rb_l14_173 : rb_lk 14 173 0 262 := (rb_w7 198 rfl rfl)
theorem rb_l14_177 : rb_lk 14 177 0 263 := (rb_w7 202 rfl rfl)
theorem rb_l14_181 : rb_lk 14 181 0 264 := (rb_w7 206 rfl rfl)
theorem rb_l14_185 : rb_lk 14 185 0 267 := (rb_w7 217 rfl rfl)
theorem rb_l14_189 : rb_lk 14 189 0 268 := (rb_w7 221 rfl rfl)
theorem rb_l14_193 : rb_lk 14 193 0 270 := (rb_w7 229 rfl rfl)
theorem rb_l14_197 : rb_lk 14 197 0 273 := (rb_w8 1 rfl rfl)
theorem rb_l14_201 : rb_lk 14 201 0 276 := (rb_w8 11 rfl rfl)
theorem rb_l14_205 : rb_lk 14 205 0 278 := (rb_w8 19 rfl rfl)
theorem rb_l14_209 : rb_lk 14 209 0 280 := (rb_w8 28 rfl rfl)
theorem rb_l14_213 : rb_lk 14 213 0 281 := (rb_w8 32 rfl rfl)
theorem rb_l14_217 : rb_lk 14 217 0 282 := (rb_w8 36 rfl rfl)
theorem rb_l14_220 : rb_lk 14 220 0 283 := (rb_w8 40 rfl rfl)
set_option maxRecDepth 100000 in
theorem rb_fl14 : ∀ q ∈ rb_flL.getD 14 [], rb_flw 14 q := rb_nn
set_option maxRecDepth 100000 in
theorem rb_gl14 : ∀ q ∈ rb_glL.getD 14 [], rb_glw 14 q := rb_nn
set_option maxRecDepth 100000 in
theorem rb_ml14 : ∀ q ∈ rb_mlL.getD 14 [], rb_lk 14 q.1 q.2.1 q.2.2 := (rb_cc2 rb_l14_30 (rb_cc2 rb_l14_34 (rb_cc2 rb_l14_39 (rb_cc2 rb_l14_44 (rb_cc2 rb_l14_64 (rb_cc2 rb_l14_69 (rb_cc2 rb_l14_73 (rb_cc2 rb_l14_77 (rb_cc2 rb_l14_81 (rb_cc2 rb_l14_86 (rb_cc2 rb_l14_90 (rb_cc2 rb_l14_94 (rb_cc2 rb_l14_98 (rb_cc2 rb_l14_102 (rb_cc2 rb_l14_106 (rb_cc2 rb_l14_110 (rb_cc2 rb_l14_114 (rb_cc2 rb_l14_118 (rb_cc2 rb_l14_122 (rb_cc2 rb_l14_126 (rb_cc2 rb_l14_130 (rb_cc2 rb_l14_134 (rb_cc2 rb_l14_138 (rb_cc2 rb_l14_142 (rb_cc2 rb_l14_146 (rb_cc2 rb_l14_150 (rb_cc2 rb_l14_154 (rb_cc2 rb_l14_158 (rb_cc2 rb_l14_162 (rb_cc2 rb_l14_166 (rb_cc2 rb_l14_170 (rb_cc2 rb_l14_174 (rb_cc2 rb_l14_178 (rb_cc2 rb_l14_182 (rb_cc2 rb_l14_186 (rb_cc2 rb_l14_190 (rb_cc2 rb_l14_194 (rb_cc2 rb_l14_198 (rb_cc2 rb_l14_202 (rb_cc2 rb_l14_206 (rb_cc2 rb_l14_210 (rb_cc2 rb_l14_214 (rb_cc2 rb_l14_7 (rb_cc2 rb_l14_15 (rb_cc2 rb_l14_19 (rb_cc2 rb_l14_22 (rb_cc2 rb_l14_54 (rb_cc2 rb_l14_33 (rb_cc2 rb_l14_38 (rb_cc2 rb_l14_43 (rb_cc2 rb_l14_47 (rb_cc2 rb_l14_53 (rb_cc2 rb_l14_60 (rb_cc2 rb_l14_63 (rb_cc2 rb_l14_68 (rb_cc2 rb_l14_72 (rb_cc2 rb_l14_76 (rb_cc2 rb_l14_80 (rb_cc2 rb_l14_85 (rb_cc2 rb_l14_89 (rb_cc2 rb_l14_93 (rb_cc2 rb_l14_97 (rb_cc2 rb_l14_101 (rb_cc2 rb_l14_105 (rb_cc2 rb_l14_109 (rb_cc2 rb_l14_113 (rb_cc2 rb_l14_117 (rb_cc2 rb_l14_121 (rb_cc2 rb_l14_125 (rb_cc2 rb_l14_129 (rb_cc2 rb_l14_133 (rb_cc2 rb_l14_137 (rb_cc2 rb_l14_141 (rb_cc2 rb_l14_145 (rb_cc2 rb_l14_149 (rb_cc2 rb_l14_153 (rb_cc2 rb_l14_157 (rb_cc2 rb_l14_161 (rb_cc2 rb_l14_165 (rb_cc2 rb_l14_169 (rb_cc2 rb_l14_173 (rb_cc2 rb_l14_177 (rb_cc2 rb_l14_181 (rb_cc2 rb_l14_185 (rb_cc2 rb_l14_189 (rb_cc2 rb_l14_193 (rb_cc2 rb_l14_197 (rb_cc2 rb_l14_201 (rb_cc2 rb_l14_205 (rb_cc2 rb_l14_209 (rb_cc2 rb_l14_213 (rb_cc2 rb_l14_217 (rb_cc2 rb_l14_220 rb_nn)))))))))))))))))))))))))))))))))))))))))))))))))))))))))))))))))))))))))))))))))))))))))))))
set_option maxRecDepth 100000 in
theorem rb_cs14 : ∀ q ∈ rb_csL.getD 14 [], rb_csw 14 q := rb_nn
set_option maxRecDepth 100000 in
theorem rb_fl15 : ∀ q ∈ rb_flL.getD 15 [], rb_flw 15 q := rb_nn
set_option maxRecDepth 100000 in
theorem rb_gl15 : ∀ q ∈ rb_glL.getD 15 [], rb_glw 15 q := rb_nn
set_option maxRecDepth 100000 in
theorem rb_ml15 : ∀ q ∈ rb_mlL.getD 15 [], rb_lk 15 q.1 q.2.1 q.2.2 := rb_nn
set_option maxRecDepth 100000 in
theorem rb_cs15 : ∀ q ∈ rb_csL.getD 15 [], rb_csw 15 q := rb_nn
theorem rb_fl_all (o : Nat) : ∀ q ∈ rb_flL.getD o [], rb_flw o q := match o with
  | 0 => rb_fl0
  | 1 => rb_fl1
  | 2 => rb_fl2
  | 3 => rb_fl3
  | 4 => rb_fl4
  | 5 => rb_fl5
  | 6 => rb_fl6
  | 7 => rb_fl7
  | 8 => rb_fl8
  | 9 => rb_fl9
  | 10 => rb_fl10
  | 11 => rb_fl11
  | 12 => rb_fl12
  | 13 => rb_fl13
  | 14 => rb_fl14
  | 15 => rb_fl15
  | n + 16 => fun q hq => absurd hq (List.not_mem_nil)
theorem rb_gl_all (o : Nat) : ∀ q ∈ rb_glL.getD o [], rb_glw o q := match o with
  | 0 => rb_gl0
  | 1 => rb_gl1
  | 2 => rb_gl2
  | 3 => rb_gl3
  | 4 => rb_gl4
  | 5 => rb_gl5
  | 6 => rb_gl6
  | 7 => rb_gl7
  | 8 => rb_gl8
  | 9 => rb_gl9
  | 10 => rb_gl10
  | 11 => rb_gl11
  | 12 => rb_gl12
  | 13 => rb_gl13
  | 14 => rb_gl14
  | 15 => rb_gl15
  | n + 16 => fun q hq => absurd hq (List.not_mem_nil)
theorem rb_ml_all (o : Nat) : ∀ q ∈ rb_mlL.getD o [], rb_lk o q.1 q.2.1 q.2.2 := match o with
  | 0 => rb_ml0
  | 1 => rb_ml1
  | 2 => rb_ml2
  | 3 => rb_ml3
  | 4 => rb_ml4
  | 5 => rb_ml5
  | 6 => rb_ml6
  | 7 => rb_ml7
  | 8 => rb_ml8
  | 9 => rb_ml9
  | 10 => rb_ml10
  | 11 => rb_ml11
  | 12 => rb_ml12
  | 13 => rb_ml13
  | 14 => rb_ml14
  | 15 => rb_ml15
  | n + 16 => fun q hq => absurd hq (List.not_mem_nil)
theorem rb_cs_all (o : Nat) : ∀ q ∈ rb_csL.getD o [], rb_csw o q := match o with
  | 0 => rb_cs0
  | 1 => rb_cs1
  | 2 => rb_cs2
  | 3 => rb_cs3
  | 4 => rb_cs4
  | 5 => rb_cs5
  | 6 => rb_cs6
  | 7 => rb_cs7
  | 8 => rb_cs8
  | 9 => rb_cs9
  | 10 => rb_cs10
  | 11 => rb_cs11
  | 12 => rb_cs12
  | 13 => rb_cs13
  | 14 => rb_cs14
  | 15 => rb_cs15
  | n + 16 => fun q hq => absurd hq (List.not_mem_nil)
/-- what stands under an entry -/
def rb_find {α : Type} : List (Nat × α) → Nat → Option α
  | [], _ => none
  | (j, v) :: t, k => bif j == k then some v else rb_find t k
theorem rb_find_mem {α : Type} : ∀ {l : List (Nat × α)} {k : Nat} {v : α}, rb_find l k = some v → (k, v) ∈ l
  | [], _, _, h => by cases h
  | (j, w) :: t, k, v, h => by
    unfold rb_find at h
    by_cases e : j = k
    · subst e
      rw [show (j == j) = true from beq_self_eq_true j] at h
      cases h
      exact List.mem_cons_self
    · rw [show (j == k) = false from beq_eq_false_iff_ne.mpr e] at h
      exact List.mem_cons_of_mem _ (rb_find_mem h)
def rb_fl (o idx : Nat) : Option (Nat × Nat) := rb_find (rb_flL.getD o []) idx
def rb_gl (o idx : Nat) : Option Nat := rb_find (rb_glL.getD o []) idx
def rb_ml (o idx : Nat) : Option (Nat × Nat) := rb_find (rb_mlL.getD o []) idx
def rb_cs (o idx : Nat) : Option Value := rb_find (rb_csL.getD o []) idx
theorem rb_fl_ok {o idx : Nat} {q : Nat × Nat} (h : rb_fl o idx = some q) : rb_flw o (idx, q) := rb_fl_all o _ (rb_find_mem h)
theorem rb_gl_ok {o idx k : Nat} (h : rb_gl o idx = some k) : rb_glw o (idx, k) := rb_gl_all o _ (rb_find_mem h)
theorem rb_ml_ok {o idx : Nat} {q : Nat × Nat} (h : rb_ml o idx = some q) : rb_lk o idx q.1 q.2 := rb_ml_all o _ (rb_find_mem h)
theorem rb_cs_ok {o idx : Nat} {v : Value} (h : rb_cs o idx = some v) : rb_csw o (idx, v) := rb_cs_all o _ (rb_find_mem h)
theorem rb_mo_all (m : Nat) (hm : m < rb_nM) : rb_mo (rb_mt m) := by
  match m, hm with
  | 0, _ => exact rb_mo_0
  | 1, _ => exact rb_mo_1
  | 2, _ => exact rb_mo_2
  | 3, _ => exact rb_mo_3
  | 4, _ => exact rb_mo_4
  | 5, _ => exact rb_mo_5
  | 6, _ => exact rb_mo_6
  | 7, _ => exact rb_mo_7
  | 8, _ => exact rb_mo_8
  | 9, _ => exact rb_mo_9
  | 10, _ => exact rb_mo_10
  | 11, _ => exact rb_mo_11
  | 12, _ => exact rb_mo_12
  | 13, _ => exact rb_mo_13
  | 14, _ => exact rb_mo_14
  | 15, _ => exact rb_mo_15
  | 16, _ => exact rb_mo_16
  | 17, _ => exact rb_mo_17
  | 18, _ => exact rb_mo_18
  | 19, _ => exact rb_mo_19
  | 20, _ => exact rb_mo_20
  | 21, _ => exact rb_mo_21
  | 22, _ => exact rb_mo_22
  | 23, _ => exact rb_mo_23
  | 24, _ => exact rb_mo_24
  | 25, _ => exact rb_mo_25
  | 26, _ => exact rb_mo_26
  | 27, _ => exact rb_mo_27
  | 28, _ => exact rb_mo_28
  | 29, _ => exact rb_mo_29
  | 30, _ => exact rb_mo_30
  | 31, _ => exact rb_mo_31
  | 32, _ => exact rb_mo_32
  | 33, _ => exact rb_mo_33
  | 34, _ => exact rb_mo_34
  | 35, _ => exact rb_mo_35
  | 36, _ => exact rb_mo_36
  | 37, _ => exact rb_mo_37
  | 38, _ => exact rb_mo_38
  | 39, _ => exact rb_mo_39
  | 40, _ => exact rb_mo_40
  | 41, _ => exact rb_mo_41
  | 42, _ => exact rb_mo_42
  | 43, _ => exact rb_mo_43
  | 44, _ => exact rb_mo_44
  | 45, _ => exact rb_mo_45
  | 46, _ => exact rb_mo_46
  | 47, _ => exact rb_mo_47
  | 48, _ => exact rb_mo_48
  | 49, _ => exact rb_mo_49
  | 50, _ => exact rb_mo_50
  | 51, _ => exact rb_mo_51
  | 52, _ => exact rb_mo_52
  | 53, _ => exact rb_mo_53
  | 54, _ => exact rb_mo_54
  | 55, _ => exact rb_mo_55
  | 56, _ => exact rb_mo_56
  | 57, _ => exact rb_mo_57
  | 58, _ => exact rb_mo_58
  | 59, _ => exact rb_mo_59
  | 60, _ => exact rb_mo_60
  | 61, _ => exact rb_mo_61
  | 62, _ => exact rb_mo_62
  | 63, _ => exact rb_mo_63
  | 64, _ => exact rb_mo_64
  | 65, _ => exact rb_mo_65
  | 66, _ => exact rb_mo_66
  | 67, _ => exact rb_mo_67
  | 68, _ => exact rb_mo_68
  | 69, _ => exact rb_mo_69
  | 70, _ => exact rb_mo_70
  | 71, _ => exact rb_mo_71
  | 72, _ => exact rb_mo_72
  | 73, _ => exact rb_mo_73
  | 74, _ => exact rb_mo_74
  | 75, _ => exact rb_mo_75
  | 76, _ => exact rb_mo_76
  | 77, _ => exact rb_mo_77
  | 78, _ => exact rb_mo_78
  | 79, _ => exact rb_mo_79
  | 80, _ => exact rb_mo_80
  | 81, _ => exact rb_mo_81
  | 82, _ => exact rb_mo_82
  | 83, _ => exact rb_mo_83
  | 84, _ => exact rb_mo_84
  | 85, _ => exact rb_mo_85
  | 86, _ => exact rb_mo_86
  | 87, _ => exact rb_mo_87
  | 88, _ => exact rb_mo_88
  | 89, _ => exact rb_mo_89
  | 90, _ => exact rb_mo_90
  | 91, _ => exact rb_mo_91
  | 92, _ => exact rb_mo_92
  | 93, _ => exact rb_mo_93
  | 94, _ => exact rb_mo_94
  | 95, _ => exact rb_mo_95
  | 96, _ => exact rb_mo_96
  | 97, _ => exact rb_mo_97
  | 98, _ => exact rb_mo_98
  | 99, _ => exact rb_mo_99
  | 100, _ => exact rb_mo_100
  | 101, _ => exact rb_mo_101
  | 102, _ => exact rb_mo_102
  | 103, _ => exact rb_mo_103
  | 104, _ => exact rb_mo_104
  | 105, _ => exact rb_mo_105
  | 106, _ => exact rb_mo_106
  | 107, _ => exact rb_mo_107
  | 108, _ => exact rb_mo_108
  | 109, _ => exact rb_mo_109
  | 110, _ => exact rb_mo_110
  | 111, _ => exact rb_mo_111
  | 112, _ => exact rb_mo_112
  | 113, _ => exact rb_mo_113
  | 114, _ => exact rb_mo_114
  | 115, _ => exact rb_mo_115
  | 116, _ => exact rb_mo_116
  | 117, _ => exact rb_mo_117
  | 118, _ => exact rb_mo_118
  | 119, _ => exact rb_mo_119
  | 120, _ => exact rb_mo_120
  | 121, _ => exact rb_mo_121
  | 122, _ => exact rb_mo_122
  | 123, _ => exact rb_mo_123
  | 124, _ => exact rb_mo_124
  | 125, _ => exact rb_mo_125
  | 126, _ => exact rb_mo_126
  | 127, _ => exact rb_mo_127
  | 128, _ => exact rb_mo_128
  | 129, _ => exact rb_mo_129
  | 130, _ => exact rb_mo_130
  | 131, _ => exact rb_mo_131
  | 132, _ => exact rb_mo_132
  | 133, _ => exact rb_mo_133
  | 134, _ => exact rb_mo_134
  | 135, _ => exact rb_mo_135
  | 136, _ => exact rb_mo_136
  | 137, _ => exact rb_mo_137
  | 138, _ => exact rb_mo_138
  | 139, _ => exact rb_mo_139
  | 140, _ => exact rb_mo_140
  | 141, _ => exact rb_mo_141
  | 142, _ => exact rb_mo_142
  | 143, _ => exact rb_mo_143
  | 144, _ => exact rb_mo_144
  | 145, _ => exact rb_mo_145
  | 146, _ => exact rb_mo_146
  | 147, _ => exact rb_mo_147
  | 148, _ => exact rb_mo_148
  | 149, _ => exact rb_mo_149
  | 150, _ => exact rb_mo_150
  | 151, _ => exact rb_mo_151
  | 152, _ => exact rb_mo_152
  | 153, _ => exact rb_mo_153
  | 154, _ => exact rb_mo_154
  | 155, _ => exact rb_mo_155
  | 156, _ => exact rb_mo_156
  | 157, _ => exact rb_mo_157
  | 158, _ => exact rb_mo_158
  | 159, _ => exact rb_mo_159
  | 160, _ => exact rb_mo_160
  | 161, _ => exact rb_mo_161
  | 162, _ => exact rb_mo_162
  | 163, _ => exact rb_mo_163
  | 164, _ => exact rb_mo_164
  | 165, _ => exact rb_mo_165
  | 166, _ => exact rb_mo_166
  | 167, _ => exact rb_mo_167
  | 168, _ => exact rb_mo_168
  | 169, _ => exact rb_mo_169
  | 170, _ => exact rb_mo_170
  | 171, _ => exact rb_mo_171
  | 172, _ => exact rb_mo_172
  | 173, _ => exact rb_mo_173
  | 174, _ => exact rb_mo_174
  | 175, _ => exact rb_mo_175
  | 176, _ => exact rb_mo_176
  | 177, _ => exact rb_mo_177
  | 178, _ => exact rb_mo_178
  | 179, _ => exact rb_mo_179
  | 180, _ => exact rb_mo_180
  | 181, _ => exact rb_mo_181
  | 182, _ => exact rb_mo_182
  | 183, _ => exact rb_mo_183
  | 184, _ => exact rb_mo_184
  | 185, _ => exact rb_mo_185
  | 186, _ => exact rb_mo_186
  | 187, _ => exact rb_mo_187
  | 188, _ => exact rb_mo_188
  | 189, _ => exact rb_mo_189
  | 190, _ => exact rb_mo_190
  | 191, _ => exact rb_mo_191
  | 192, _ => exact rb_mo_192
  | 193, _ => exact rb_mo_193
  | 194, _ => exact rb_mo_194
  | 195, _ => exact rb_mo_195
  | 196, _ => exact rb_mo_196
  | 197, _ => exact rb_mo_197
  | 198, _ => exact rb_mo_198
  | 199, _ => exact rb_mo_199
  | 200, _ => exact rb_mo_200
  | 201, _ => exact rb_mo_201
  | 202, _ => exact rb_mo_202
  | 203, _ => exact rb_mo_203
  | 204, _ => exact rb_mo_204
  | 205, _ => exact rb_mo_205
  | 206, _ => exact rb_mo_206
  | 207, _ => exact rb_mo_207
  | 208, _ => exact rb_mo_208
  | 209, _ => exact rb_mo_209
  | 210, _ => exact rb_mo_210
  | 211, _ => exact rb_mo_211
  | 212, _ => exact rb_mo_212
  | 213, _ => exact rb_mo_213
  | 214, _ => exact rb_mo_214
  | 215, _ => exact rb_mo_215
  | 216, _ => exact rb_mo_216
  | 217, _ => exact rb_mo_217
  | 218, _ => exact rb_mo_218
  | 219, _ => exact rb_mo_219
  | 220, _ => exact rb_mo_220
  | 221, _ => exact rb_mo_221
  | 222, _ => exact rb_mo_222
  | 223, _ => exact rb_mo_223
  | 224, _ => exact rb_mo_224
  | 225, _ => exact rb_mo_225
  | 226, _ => exact rb_mo_226
  | 227, _ => exact rb_mo_227
  | 228, _ => exact rb_mo_228
  | 229, _ => exact rb_mo_229
  | 230, _ => exact rb_mo_230
  | 231, _ => exact rb_mo_231
  | 232, _ => exact rb_mo_232
  | 233, _ => exact rb_mo_233
  | 234, _ => exact rb_mo_234
  | 235, _ => exact rb_mo_235
  | 236, _ => exact rb_mo_236
  | 237, _ => exact rb_mo_237
  | 238, _ => exact rb_mo_238
  | 239, _ => exact rb_mo_239
  | 240, _ => exact rb_mo_240
  | 241, _ => exact rb_mo_241
  | 242, _ => exact rb_mo_242
  | 243, _ => exact rb_mo_243
  | 244, _ => exact rb_mo_244
  | 245, _ => exact rb_mo_245
  | 246, _ => exact rb_mo_246
  | 247, _ => exact rb_mo_247
  | 248, _ => exact rb_mo_248
  | 249, _ => exact rb_mo_249
  | 250, _ => exact rb_mo_250
  | 251, _ => exact rb_mo_251
  | 252, _ => exact rb_mo_252
  | 253, _ => exact rb_mo_253
  | 254, _ => exact rb_mo_254
  | 255, _ => exact rb_mo_255
  | 256, _ => exact rb_mo_256
  | 257, _ => exact rb_mo_257
  | 258, _ => exact rb_mo_258
  | 259, _ => exact rb_mo_259
  | 260, _ => exact rb_mo_260
  | 261, _ => exact rb_mo_261
  | 262, _ => exact rb_mo_262
  | 263, _ => exact rb_mo_263
  | 264, _ => exact rb_mo_264
  | 265, _ => exact rb_mo_265
  | 266, _ => exact rb_mo_266
  | 267, _ => exact rb_mo_267
  | 268, _ => exact rb_mo_268
  | 269, _ => exact rb_mo_269
  | 270, _ => exact rb_mo_270
  | 271, _ => exact rb_mo_271
  | 272, _ => exact rb_mo_272
  | 273, _ => exact rb_mo_273
  | n + 274, h => exact absurd h (by unfold rb_nM; omega)
theorem rb_cl_at (c : Nat) (h : c < 10) : rb_cl[c]? = some (rb_cq c) := by
  match c, h with
  | 0, _ => rfl
  | 1, _ => rfl
  | 2, _ => rfl
  | 3, _ => rfl
  | 4, _ => rfl
  | 5, _ => rfl
  | 6, _ => rfl
  | 7, _ => rfl
  | 8, _ => rfl
  | 9, _ => rfl
  | n + 10, h => omega
theorem rb_y0_0 : u_lay (rb_cq 0).1 (rb_cq 0).2.1 0 ∈ rb_tbl := (rb_w1 196 rfl rfl)
theorem rb_y0_1 : u_lay (rb_cq 0).1 (rb_cq 0).2.1 1 ∈ rb_tbl := (rb_w1 198 rfl rfl)
theorem rb_y0_2 : u_lay (rb_cq 0).1 (rb_cq 0).2.1 2 ∈ rb_tbl := (rb_w1 200 rfl rfl)
theorem rb_y0_3 : u_lay (rb_cq 0).1 (rb_cq 0).2.1 3 ∈ rb_tbl := (rb_w1 202 rfl rfl)
theorem rb_in0 : ∀ w ∈ u_ws (rb_cq 0).1 (rb_cq 0).2.1 (rb_cq 0).2.2, w ∈ rb_tbl := by
  intro w hw
  obtain ⟨k, hk, rfl⟩ := List.mem_map.mp hw
  have hk := List.mem_range.mp hk
  match k, hk with
  | 0, _ => exact rb_y0_0
  | 1, _ => exact rb_y0_1
  | 2, _ => exact rb_y0_2
  | 3, _ => exact rb_y0_3
  | n + 4, h => exact absurd h (by show ¬ n + 4 < 4; omega)
theorem rb_y1_0 : u_lay (rb_cq 1).1 (rb_cq 1).2.1 0 ∈ rb_tbl := (rb_w2 12 rfl rfl)
theorem rb_y1_1 : u_lay (rb_cq 1).1 (rb_cq 1).2.1 1 ∈ rb_tbl := (rb_w2 14 rfl rfl)
theorem rb_y1_2 : u_lay (rb_cq 1).1 (rb_cq 1).2.1 2 ∈ rb_tbl := (rb_w2 16 rfl rfl)
theorem rb_y1_3 : u_lay (rb_cq 1).1 (rb_cq 1).2.1 3 ∈ rb_tbl := (rb_w2 18 rfl rfl)
theorem rb_in1 : ∀ w ∈ u_ws (rb_cq 1).1 (rb_cq 1).2.1 (rb_cq 1).2.2, w ∈ rb_tbl := by
  intro w hw
  obtain ⟨k, hk, rfl⟩ := List.mem_map.mp hw
  have hk := List.mem_range.mp hk
  match k, hk with
  | 0, _ => exact rb_y1_0
  | 1, _ => exact rb_y1_1
  | 2, _ => exact rb_y1_2
  | 3, _ => exact rb_y1_3
  | n + 4, h => exact absurd h (by show ¬ n + 4 < 4; omega)
theorem rb_y2_0 : u_lay (rb_cq 2).1 (rb_cq 2).2.1 0 ∈ rb_tbl := (rb_w1 176 rfl rfl)
theorem rb_y2_1 : u_lay (rb_cq 2).1 (rb_cq 2).2.1 1 ∈ rb_tbl := (rb_w1 178 rfl rfl)
theorem rb_y2_2 : u_lay (rb_cq 2).1 (rb_cq 2).2.1 2 ∈ rb_tbl := (rb_w1 180 rfl rfl)
theorem rb_in2 : ∀ w ∈ u_ws (rb_cq 2).1 (rb_cq 2).2.1 (rb_cq 2).2.2, w ∈ rb_tbl := by
  intro w hw
  obtain ⟨k, hk, rfl⟩ := List.mem_map.mp hw
  have hk := List.mem_range.mp hk
  match k, hk with
  | 0, _ => exact rb_y2_0
  | 1, _ => exact rb_y2_1
  | 2, _ => exact rb_y2_2
  | n + 3, h => exact absurd h (by show ¬ n + 3 < 3; omega)
theorem rb_y3_0 : u_lay (rb_cq 3).1 (rb_cq 3).2.1 0 ∈ rb_tbl := (rb_w1 58 rfl rfl)
theorem rb_y3_1 : u_lay (rb_cq 3).1 (rb_cq 3).2.1 1 ∈ rb_tbl := (rb_w1 60 rfl rfl)
theorem rb_in3 : ∀ w ∈ u_ws (rb_cq 3).1 (rb_cq 3).2.1 (rb_cq 3).2.2, w ∈ rb_tbl := by
  intro w hw
  obtain ⟨k, hk, rfl⟩ := List.mem_map.mp hw
  have hk := List.mem_range.mp hk
  match k, hk with
  | 0, _ => exact rb_y3_0
  | 1, _ => exact rb_y3_1
  | n + 2, h => exact absurd h (by show ¬ n + 2 < 2; omega)
theorem rb_y4_0 : u_lay (rb_cq 4).1 (rb_cq 4).2.1 0 ∈ rb_tbl := (rb_w1 91 rfl rfl)
theorem rb_y4_1 : u_lay (rb_cq 4).1 (rb_cq 4).2.1 1 ∈ rb_tbl := (rb_w1 93 rfl rfl)
theorem rb_y4_2 : u_lay (rb_cq 4).1 (rb_cq 4).2.1 2 ∈ rb_tbl := (rb_w1 95 rfl rfl)
theorem rb_y4_3 : u_lay (rb_cq 4).1 (rb_cq 4).2.1 3 ∈ rb_tbl := (rb_w1 97 rfl rfl)
theorem rb_y4_4 : u_lay (rb_cq 4).1 (rb_cq 4).2.1 4 ∈ rb_tbl := (rb_w1 99 rfl rfl)
theorem rb_y4_5 : u_lay (rb_cq 4).1 (rb_cq 4).2.1 5 ∈ rb_tbl := (rb_w1 101 rfl rfl)
theorem rb_y4_6 : u_lay (rb_cq 4).1 (rb_cq 4).2.1 6 ∈ rb_tbl := (rb_w1 103 rfl rfl)
theorem rb_y4_7 : u_lay (rb_cq 4).1 (rb_cq 4).2.1 7 ∈ rb_tbl := (rb_w1 105 rfl rfl)
theorem rb_y4_8 : u_lay (rb_cq 4).1 (rb_cq 4).2.1 8 ∈ rb_tbl := (rb_w1 107 rfl rfl)
theorem rb_y4_9 : u_lay (rb_cq 4).1 (rb_cq 4).2.1 9 ∈ rb_tbl := (rb_w1 109 rfl rfl)
theorem rb_in4 : ∀ w ∈ u_ws (rb_cq 4).1 (rb_cq 4).2.1 (rb_cq 4).2.2, w ∈ rb_tbl := by
  intro w hw
  obtain ⟨k, hk, rfl⟩ := List.mem_map.mp hw
  have hk := List.mem_range.mp hk
  match k, hk with
  | 0, _ => exact rb_y4_0
  | 1, _ => exact rb_y4_1
  | 2, _ => exact rb_y4_2
  | 3, _ => exact rb_y4_3
  | 4, _ => exact rb_y4_4
  | 5, _ => exact rb_y4_5
  | 6, _ => exact rb_y4_6
  | 7, _ => exact rb_y4_7
  | 8, _ => exact rb_y4_8
  | 9, _ => exact rb_y4_9
  | n + 10, h => exact absurd h (by show ¬ n + 10 < 10; omega)
theorem rb_y5_0 : u_lay (rb_cq 5).1 (rb_cq 5).2.1 0 ∈ rb_tbl := (rb_w1 144 rfl rfl)
theorem rb_y5_1 : u_lay (rb_cq 5).1 (rb_cq 5).2.1 1 ∈ rb_tbl := (rb_w1 146 rfl rfl)
theorem rb_y5_2 : u_lay (rb_cq 5).1 (rb_cq 5).2.1 2 ∈ rb_tbl := (rb_w1 148 rfl rfl)
theorem rb_y5_3 : u_lay (rb_cq 5).1 (rb_cq 5).2.1 3 ∈ rb_tbl := (rb_w1 150 rfl rfl)
theorem rb_y5_4 : u_lay (rb_cq 5).1 (rb_cq 5).2.1 4 ∈ rb_tbl := (rb_w1 152 rfl rfl)
theorem rb_y5_5 : u_lay (rb_cq 5).1 (rb_cq 5).2.1 5 ∈ rb_tbl := (rb_w1 154 rfl rfl)
theorem rb_y5_6 : u_lay (rb_cq 5).1 (rb_cq 5).2.1 6 ∈ rb_tbl := (rb_w1 156 rfl rfl)
theorem rb_y5_7 : u_lay (rb_cq 5).1 (rb_cq 5).2.1 7 ∈ rb_tbl := (rb_w1 158 rfl rfl)
theorem rb_y5_8 : u_lay (rb_cq 5).1 (rb_cq 5).2.1 8 ∈ rb_tbl := (rb_w1 160 rfl rfl)
theorem rb_in5 : ∀ w ∈ u_ws (rb_cq 5).1 (rb_cq 5).2.1 (rb_cq 5).2.2, w ∈ rb_tbl := by
  intro w hw
  obtain ⟨k, hk, rfl⟩ := List.mem_map.mp hw
  have hk := List.mem_range.mp hk
  match k, hk with
  | 0, _ => exact rb_y5_0
  | 1, _ => exact rb_y5_1
  | 2, _ => exact rb_y5_2
  | 3, _ => exact rb_y5_3
  | 4, _ => exact rb_y5_4
  | 5, _ => exact rb_y5_5
  | 6, _ => exact rb_y5_6
  | 7, _ => exact rb_y5_7
  | 8, _ => exact rb_y5_8
  | n + 9, h => exact absurd h (by show ¬ n + 9 < 9; omega)
theorem rb_y6_0 : u_lay (rb_cq 6).1 (rb_cq 6).2.1 0 ∈ rb_tbl := (rb_w1 42 rfl rfl)
theorem rb_y6_1 : u_lay (rb_cq 6).1 (rb_cq 6).2.1 1 ∈ rb_tbl := (rb_w1 44 rfl rfl)
theorem rb_in6 : ∀ w ∈ u_ws (rb_cq 6).1 (rb_cq 6).2.1 (rb_cq 6).2.2, w ∈ rb_tbl := by
  intro w hw
  obtain ⟨k, hk, rfl⟩ := List.mem_map.mp hw
  have hk := List.mem_range.mp hk
  match k, hk with
  | 0, _ => exact rb_y6_0
  | 1, _ => exact rb_y6_1
  | n + 2, h => exact absurd h (by show ¬ n + 2 < 2; omega)
theorem rb_y7_0 : u_lay (rb_cq 7).1 (rb_cq 7).2.1 0 ∈ rb_tbl := (rb_w1 221 rfl rfl)
theorem rb_y7_1 : u_lay (rb_cq 7).1 (rb_cq 7).2.1 1 ∈ rb_tbl := (rb_w1 223 rfl rfl)
theorem rb_y7_2 : u_lay (rb_cq 7).1 (rb_cq 7).2.1 2 ∈ rb_tbl := (rb_w1 225 rfl rfl)
theorem rb_y7_3 : u_lay (rb_cq 7).1 (rb_cq 7).2.1 3 ∈ rb_tbl := (rb_w1 227 rfl rfl)
theorem rb_y7_4 : u_lay (rb_cq 7).1 (rb_cq 7).2.1 4 ∈ rb_tbl := (rb_w1 229 rfl rfl)
theorem rb_y7_5 : u_lay (rb_cq 7).1 (rb_cq 7).2.1 5 ∈ rb_tbl := (rb_w1 231 rfl rfl)
theorem rb_y7_6 : u_lay (rb_cq 7).1 (rb_cq 7).2.1 6 ∈ rb_tbl := (rb_w1 233 rfl rfl)
theorem rb_y7_7 : u_lay (rb_cq 7).1 (rb_cq 7).2.1 7 ∈ rb_tbl := (rb_w1 235 rfl rfl)
theorem rb_in7 : ∀ w ∈ u_ws (rb_cq 7).1 (rb_cq 7).2.1 (rb_cq 7).2.2, w ∈ rb_tbl := by
  intro w hw
  obtain ⟨k, hk, rfl⟩ := List.mem_map.mp hw
  have hk := List.mem_range.mp hk
  match k, hk with
  | 0, _ => exact rb_y7_0
  | 1, _ => exact rb_y7_1
  | 2, _ => exact rb_y7_2
  | 3, _ => exact rb_y7_3
  | 4, _ => exact rb_y7_4
  | 5, _ => exact rb_y7_5
  | 6, _ => exact rb_y7_6
  | 7, _ => exact rb_y7_7
  | n + 8, h => exact absurd h (by show ¬ n + 8 < 8; omega)
theorem rb_y8_0 : u_lay (rb_cq 8).1 (rb_cq 8).2.1 0 ∈ rb_tbl := (rb_w2 36 rfl rfl)
theorem rb_y8_1 : u_lay (rb_cq 8).1 (rb_cq 8).2.1 1 ∈ rb_tbl := (rb_w2 38 rfl rfl)
theorem rb_y8_2 : u_lay (rb_cq 8).1 (rb_cq 8).2.1 2 ∈ rb_tbl := (rb_w2 40 rfl rfl)
theorem rb_y8_3 : u_lay (rb_cq 8).1 (rb_cq 8).2.1 3 ∈ rb_tbl := (rb_w2 42 rfl rfl)
theorem rb_y8_4 : u_lay (rb_cq 8).1 (rb_cq 8).2.1 4 ∈ rb_tbl := (rb_w2 44 rfl rfl)
theorem rb_y8_5 : u_lay (rb_cq 8).1 (rb_cq 8).2.1 5 ∈ rb_tbl := (rb_w2 46 rfl rfl)
theorem rb_y8_6 : u_lay (rb_cq 8).1 (rb_cq 8).2.1 6 ∈ rb_tbl := (rb_w2 48 rfl rfl)
theorem rb_y8_7 : u_lay (rb_cq 8).1 (rb_cq 8).2.1 7 ∈ rb_tbl := (rb_w2 50 rfl rfl)
theorem rb_y8_8 : u_lay (rb_cq 8).1 (rb_cq 8).2.1 8 ∈ rb_tbl := (rb_w2 52 rfl rfl)
theorem rb_y8_9 : u_lay (rb_cq 8).1 (rb_cq 8).2.1 9 ∈ rb_tbl := (rb_w2 54 rfl rfl)
theorem rb_y8_10 : u_lay (rb_cq 8).1 (rb_cq 8).2.1 10 ∈ rb_tbl := (rb_w2 56 rfl rfl)
theorem rb_y8_11 : u_lay (rb_cq 8).1 (rb_cq 8).2.1 11 ∈ rb_tbl := (rb_w2 58 rfl rfl)
theorem rb_y8_12 : u_lay (rb_cq 8).1 (rb_cq 8).2.1 12 ∈ rb_tbl := (rb_w2 60 rfl rfl)
theorem rb_y8_13 : u_lay (rb_cq 8).1 (rb_cq 8).2.1 13 ∈ rb_tbl := (rb_w2 62 rfl rfl)
theorem rb_y8_14 : u_lay (rb_cq 8).1 (rb_cq 8).2.1 14 ∈ rb_tbl := (rb_w2 64 rfl rfl)
theorem rb_in8 : ∀ w ∈ u_ws (rb_cq 8).1 (rb_cq 8).2.1 (rb_cq 8).2.2, w ∈ rb_tbl := by
  intro w hw
  obtain ⟨k, hk, rfl⟩ := List.mem_map.mp hw
  have hk := List.mem_range.mp hk
  match k, hk with
  | 0, _ => exact rb_y8_0
  | 1, _ => exact rb_y8_1
  | 2, _ => exact rb_y8_2
  | 3, _ => exact rb_y8_3
  | 4, _ => exact rb_y8_4
  | 5, _ => exact rb_y8_5
  | 6, _ => exact rb_y8_6
  | 7, _ => exact rb_y8_7
  | 8, _ => exact rb_y8_8
  | 9, _ => exact rb_y8_9
  | 10, _ => exact rb_y8_10
  | 11, _ => exact rb_y8_11
  | 12, _ => exact rb_y8_12
  | 13, _ => exact rb_y8_13
  | 14, _ => exact rb_y8_14
  | n + 15, h => exact absurd h (by show ¬ n + 15 < 15; omega)
theorem rb_y9_0 : u_lay (rb_cq 9).1 (rb_cq 9).2.1 0 ∈ rb_tbl := (rb_w5 218 rfl rfl)
theorem rb_y9_1 : u_lay (rb_cq 9).1 (rb_cq 9).2.1 1 ∈ rb_tbl := (rb_w5 220 rfl rfl)
theorem rb_y9_2 : u_lay (rb_cq 9).1 (rb_cq 9).2.1 2 ∈ rb_tbl := (rb_w5 222 rfl rfl)
theorem rb_y9_3 : u_lay (rb_cq 9).1 (rb_cq 9).2.1 3 ∈ rb_tbl := (rb_w5 224 rfl rfl)
theorem rb_y9_4 : u_lay (rb_cq 9).1 (rb_cq 9).2.1 4 ∈ rb_tbl := (rb_w5 226 rfl rfl)
theorem rb_y9_5 : u_lay (rb_cq 9).1 (rb_cq 9).2.1 5 ∈ rb_tbl := (rb_w5 228 rfl rfl)
theorem rb_y9_6 : u_lay (rb_cq 9).1 (rb_cq 9).2.1 6 ∈ rb_tbl := (rb_w5 230 rfl rfl)
theorem rb_y9_7 : u_lay (rb_cq 9).1 (rb_cq 9).2.1 7 ∈ rb_tbl := (rb_w5 232 rfl rfl)
theorem rb_y9_8 : u_lay (rb_cq 9).1 (rb_cq 9).2.1 8 ∈ rb_tbl := (rb_w5 234 rfl rfl)
theorem rb_y9_9 : u_lay (rb_cq 9).1 (rb_cq 9).2.1 9 ∈ rb_tbl := (rb_w5 236 rfl rfl)
theorem rb_y9_10 : u_lay (rb_cq 9).1 (rb_cq 9).2.1 10 ∈ rb_tbl := (rb_w5 238 rfl rfl)
theorem rb_y9_11 : u_lay (rb_cq 9).1 (rb_cq 9).2.1 11 ∈ rb_tbl := (rb_w6 0 rfl rfl)
theorem rb_y9_12 : u_lay (rb_cq 9).1 (rb_cq 9).2.1 12 ∈ rb_tbl := (rb_w6 2 rfl rfl)
theorem rb_y9_13 : u_lay (rb_cq 9).1 (rb_cq 9).2.1 13 ∈ rb_tbl := (rb_w6 4 rfl rfl)
theorem rb_y9_14 : u_lay (rb_cq 9).1 (rb_cq 9).2.1 14 ∈ rb_tbl := (rb_w6 6 rfl rfl)
theorem rb_y9_15 : u_lay (rb_cq 9).1 (rb_cq 9).2.1 15 ∈ rb_tbl := (rb_w6 8 rfl rfl)
theorem rb_y9_16 : u_lay (rb_cq 9).1 (rb_cq 9).2.1 16 ∈ rb_tbl := (rb_w6 10 rfl rfl)
theorem rb_y9_17 : u_lay (rb_cq 9).1 (rb_cq 9).2.1 17 ∈ rb_tbl := (rb_w6 12 rfl rfl)
theorem rb_y9_18 : u_lay (rb_cq 9).1 (rb_cq 9).2.1 18 ∈ rb_tbl := (rb_w6 14 rfl rfl)
theorem rb_y9_19 : u_lay (rb_cq 9).1 (rb_cq 9).2.1 19 ∈ rb_tbl := (rb_w6 16 rfl rfl)
theorem rb_y9_20 : u_lay (rb_cq 9).1 (rb_cq 9).2.1 20 ∈ rb_tbl := (rb_w6 18 rfl rfl)
theorem rb_y9_21 : u_lay (rb_cq 9).1 (rb_cq 9).2.1 21 ∈ rb_tbl := (rb_w6 20 rfl rfl)
theorem rb_y9_22 : u_lay (rb_cq 9).1 (rb_cq 9).2.1 22 ∈ rb_tbl := (rb_w6 22 rfl rfl)
theorem rb_y9_23 : u_lay (rb_cq 9).1 (rb_cq 9).2.1 23 ∈ rb_tbl := (rb_w6 24 rfl rfl)
theorem rb_y9_24 : u_lay (rb_cq 9).1 (rb_cq 9).2.1 24 ∈ rb_tbl := (rb_w6 26 rfl rfl)
theorem rb_y9_25 : u_lay (rb_cq 9).1 (rb_cq 9).2.1 25 ∈ rb_tbl := (rb_w6 28 rfl rfl)
theorem rb_y9_26 : u_lay (rb_cq 9).1 (rb_cq 9).2.1 26 ∈ rb_tbl := (rb_w6 30 rfl rfl)
theorem rb_y9_27 : u_lay (rb_cq 9).1 (rb_cq 9).2.1 27 ∈ rb_tbl := (rb_w6 32 rfl rfl)
theorem rb_y9_28 : u_lay (rb_cq 9).1 (rb_cq 9).2.1 28 ∈ rb_tbl := (rb_w6 34 rfl rfl)
theorem rb_y9_29 : u_lay (rb_cq 9).1 (rb_cq 9).2.1 29 ∈ rb_tbl := (rb_w6 36 rfl rfl)
theorem rb_y9_30 : u_lay (rb_cq 9).1 (rb_cq 9).2.1 30 ∈ rb_tbl := (rb_w6 38 rfl rfl)
theorem rb_y9_31 : u_lay (rb_cq 9).1 (rb_cq 9).2.1 31 ∈ rb_tbl := (rb_w6 40 rfl rfl)
theorem rb_y9_32 : u_lay (rb_cq 9).1 (rb_cq 9).2.1 32 ∈ rb_tbl := (rb_w6 42 rfl rfl)
theorem rb_y9_33 : u_lay (rb_cq 9).1 (rb_cq 9).2.1 33 ∈ rb_tbl := (rb_w6 44 rfl rfl)
theorem rb_y9_34 : u_lay (rb_cq 9).1 (rb_cq 9).2.1 34 ∈ rb_tbl := (rb_w6 46 rfl rfl)
theorem rb_y9_35 : u_lay (rb_cq 9).1 (rb_cq 9).2.1 35 ∈ rb_tbl := (rb_w6 48 rfl rfl)
theorem rb_y9_36 : u_lay (rb_cq 9).1 (rb_cq 9).2.1 36 ∈ rb_tbl := (rb_w6 50 rfl rfl)
theorem rb_y9_37 : u_lay (rb_cq 9).1 (rb_cq 9).2.1 37 ∈ rb_tbl := (rb_w6 52 rfl rfl)
theorem rb_y9_38 : u_lay (rb_cq 9).1 (rb_cq 9).2.1 38 ∈ rb_tbl := (rb_w6 54 rfl rfl)
theorem rb_y9_39 : u_lay (rb_cq 9).1 (rb_cq 9).2.1 39 ∈ rb_tbl := (rb_w6 56 rfl rfl)
theorem rb_y9_40 : u_lay (rb_cq 9).1 (rb_cq 9).2.1 40 ∈ rb_tbl := (rb_w6 58 rfl rfl)
theorem rb_y9_41 : u_lay (rb_cq 9).1 (rb_cq 9).2.1 41 ∈ rb_tbl := (rb_w6 60 rfl rfl)
theorem rb_y9_42 : u_lay (rb_cq 9).1 (rb_cq 9).2.1 42 ∈ rb_tbl := (rb_w6 62 rfl rfl)
theorem rb_y9_43 : u_lay (rb_cq 9).1 (rb_cq 9).2.1 43 ∈ rb_tbl := (rb_w6 64 rfl rfl)
theorem rb_y9_44 : u_lay (rb_cq 9).1 (rb_cq 9).2.1 44 ∈ rb_tbl := (rb_w6 66 rfl rfl)
theorem rb_y9_45 : u_lay (rb_cq 9).1 (rb_cq 9).2.1 45 ∈ rb_tbl := (rb_w6 68 rfl rfl)
theorem rb_in9 : ∀ w ∈ u_ws (rb_cq 9).1 (rb_cq 9).2.1 (rb_cq 9).2.2, w ∈ rb_tbl := by
  intro w hw
  obtain ⟨k, hk, rfl⟩ := List.mem_map.mp hw
  have hk := List.mem_range.mp hk
  match k, hk with
  | 0, _ => exact rb_y9_0
  | 1, _ => exact rb_y9_1
  | 2, _ => exact rb_y9_2
  | 3, _ => exact rb_y9_3
  | 4, _ => exact rb_y9_4
  | 5, _ => exact rb_y9_5
  | 6, _ => exact rb_y9_6
  | 7, _ => exact rb_y9_7
  | 8, _ => exact rb_y9_8
  | 9, _ => exact rb_y9_9
  | 10, _ => exact rb_y9_10
  | 11, _ => exact rb_y9_11
  | 12, _ => exact rb_y9_12
  | 13, _ => exact rb_y9_13
  | 14, _ => exact rb_y9_14
  | 15, _ => exact rb_y9_15
  | 16, _ => exact rb_y9_16
  | 17, _ => exact rb_y9_17
  | 18, _ => exact rb_y9_18
  | 19, _ => exact rb_y9_19
  | 20, _ => exact rb_y9_20
  | 21, _ => exact rb_y9_21
  | 22, _ => exact rb_y9_22
  | 23, _ => exact rb_y9_23
  | 24, _ => exact rb_y9_24
  | 25, _ => exact rb_y9_25
  | 26, _ => exact rb_y9_26
  | 27, _ => exact rb_y9_27
  | 28, _ => exact rb_y9_28
  | 29, _ => exact rb_y9_29
  | 30, _ => exact rb_y9_30
  | 31, _ => exact rb_y9_31
  | 32, _ => exact rb_y9_32
  | 33, _ => exact rb_y9_33
  | 34, _ => exact rb_y9_34
  | 35, _ => exact rb_y9_35
  | 36, _ => exact rb_y9_36
  | 37, _ => exact rb_y9_37
  | 38, _ => exact rb_y9_38
  | 39, _ => exact rb_y9_39
  | 40, _ => exact rb_y9_40
  | 41, _ => exact rb_y9_41
  | 42, _ => exact rb_y9_42
  | 43, _ => exact rb_y9_43
  | 44, _ => exact rb_y9_44
  | 45, _ => exact rb_y9_45
  | n + 46, h => exact absurd h (by show ¬ n + 46 < 46; omega)
theorem rb_in (c : Nat) (h : c < 10) : ∀ w ∈ u_ws (rb_cq c).1 (rb_cq c).2.1 (rb_cq c).2.2, w ∈ rb_tbl := by
  match c, h with
  | 0, _ => exact rb_in0
  | 1, _ => exact rb_in1
  | 2, _ => exact rb_in2
  | 3, _ => exact rb_in3
  | 4, _ => exact rb_in4
  | 5, _ => exact rb_in5
  | 6, _ => exact rb_in6
  | 7, _ => exact rb_in7
  | 8, _ => exact rb_in8
  | 9, _ => exact rb_in9
  | n + 10, h => omega
theorem rb_nf_N (c : Nat) (h : c < 10) : rb_nf c = (rb_cq c).2.2 := by
  match c, h with
  | 0, _ => rfl
  | 1, _ => rfl
  | 2, _ => rfl
  | 3, _ => rfl
  | 4, _ => rfl
  | 5, _ => rfl
  | 6, _ => rfl
  | 7, _ => rfl
  | 8, _ => rfl
  | 9, _ => rfl
  | n + 10, h => omega
set_option maxRecDepth 100000 in
theorem rb_ft_ck : (List.range 10).all (fun c => (List.range (rb_cq c).2.2).all (fun k => decide (parseFieldDescriptor ((rb_cq c).2.1 k).2.2.1 = some (rb_ft c k)))) = true := by decide +kernel
theorem rb_ft_ok (c : Nat) (h : c < 10) : ∀ k, k < (rb_cq c).2.2 → parseFieldDescriptor ((rb_cq c).2.1 k).2.2.1 = some (rb_ft c k) := fun k hk => of_decide_eq_true (List.all_eq_true.mp (List.all_eq_true.mp rb_ft_ck c (List.mem_range.mpr h)) k (List.mem_range.mpr hk))
set_option maxRecDepth 100000 in
theorem rb_nm_ck : (List.range 10).all (fun c => (List.range (rb_cq c).2.2).all (fun a => (List.range (rb_cq c).2.2).all (fun b => decide (a = b) || decide (((rb_cq c).2.1 a).2.1 ≠ ((rb_cq c).2.1 b).2.1)))) = true := by decide +kernel
theorem rb_nm_ok (c : Nat) (h : c < 10) : ∀ a, a < (rb_cq c).2.2 → ∀ b, b < (rb_cq c).2.2 → a ≠ b → ((rb_cq c).2.1 a).2.1 ≠ ((rb_cq c).2.1 b).2.1 := fun a ha b hb hab => by
  have h1 := List.all_eq_true.mp (List.all_eq_true.mp (List.all_eq_true.mp rb_nm_ck c (List.mem_range.mpr h)) a (List.mem_range.mpr ha)) b (List.mem_range.mpr hb)
  rw [Bool.or_eq_true, decide_eq_true_eq, decide_eq_true_eq] at h1
  exact h1.resolve_left hab
theorem rb_gP : Cond.fieldLink "java/lang/String" 1053 "jdk/internal/util/Preconditions" "SIOOBE_FORMATTER" "Ljava/util/function/BiFunction;" ∈ rb_tbl := (rb_w2 156 rfl rfl)
theorem rb_gC : Cond.fieldLink "java/lang/String" 38 "java/lang/String" "COMPACT_STRINGS" "Z" ∈ rb_tbl := (rb_w1 79 rfl rfl)
theorem rb_gV : Cond.fieldLink "java/lang/String" 9 "java/lang/String" "value" "[B" ∈ rb_tbl := (rb_w8 58 rfl rfl)
theorem rb_gD : Cond.fieldLink "java/lang/String" 15 "java/lang/String" "coder" "B" ∈ rb_tbl := (rb_w8 59 rfl rfl)
theorem rb_gA : Cond.native arraycopyName ∈ rb_tbl ∧ Cond.static arraycopyName ∈ rb_tbl ∧ Cond.initialized "java/lang/System" ∈ rb_tbl := ⟨(rb_w2 93 rfl rfl), (rb_w2 92 rfl rfl), (rb_w1 12 rfl rfl)⟩
theorem rb_gM1 : Cond.static Lib.Math.max.name ∈ rb_tbl ∧ Cond.initialized "java/lang/Math" ∈ rb_tbl ∧ Cond.code Lib.Math.max.name Lib.Math.max.code 2 (some .int) ∈ rb_tbl := ⟨(rb_w2 132 rfl rfl), (rb_w1 13 rfl rfl), (rb_w2 133 rfl rfl)⟩
theorem rb_gM2 : Cond.static Lib.Math.min.name ∈ rb_tbl ∧ Cond.initialized "java/lang/Math" ∈ rb_tbl ∧ Cond.code Lib.Math.min.name Lib.Math.min.code 2 (some .int) ∈ rb_tbl := ⟨(rb_w2 99 rfl rfl), (rb_w1 13 rfl rfl), (rb_w2 100 rfl rfl)⟩
theorem rb_gM3 : Cond.static Lib.Math.abs.name ∈ rb_tbl ∧ Cond.initialized "java/lang/Math" ∈ rb_tbl ∧ Cond.code Lib.Math.abs.name Lib.Math.abs.code 1 (some .int) ∈ rb_tbl := ⟨(rb_w6 195 rfl rfl), (rb_w1 13 rfl rfl), (rb_w6 196 rfl rfl)⟩
theorem rb_gM4 : Cond.static Lib.MathLoose.max_long.x ∈ rb_tbl ∧ Cond.initialized "java/lang/Math" ∈ rb_tbl ∧ Cond.code Lib.MathLoose.max_long.x Lib.MathLoose.max_long.code 4 (some .long) ∈ rb_tbl := ⟨(rb_w5 16 rfl rfl), (rb_w1 13 rfl rfl), (rb_w5 17 rfl rfl)⟩
