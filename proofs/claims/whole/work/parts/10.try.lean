/-! RentBoard.isDigit(C)Z -/
abbrev cx_fB_isDigit (X : rb_X) (g : rb_G) : Prop := rb_Cx X g 8 prog_1_method_75_code 1 (some Jvm.ClassFile.FieldType.boolean) (0)
def b_fB_isDigit_k16 : List rb_I := [(.iconst 0, 1, 0, 0, .int (0)), (.ireturn, 1, 0, 0, .null)]
theorem c_fB_isDigit_k16 : rb_kb 8 prog_1_method_75_code 1 16 b_fB_isDigit_k16 = true := by decide +kernel
def b_fB_isDigit_k17 : List rb_I := [(.ireturn, 1, 0, 0, .null)]
theorem c_fB_isDigit_k17 : rb_kb 8 prog_1_method_75_code 1 17 b_fB_isDigit_k17 = true := by decide +kernel
def b_fB_isDigit_k0 : List rb_I := [(.iload_n 0, 1, 0, 0, .null), (.bipush 48, 2, 0, 0, .int (48)), (.if_icmp .lt 13, 3, 16, 0, .null), (.iload_n 0, 1, 0, 0, .null), (.bipush 57, 2, 0, 0, .int (57)), (.if_icmp .gt 7, 3, 16, 0, .null), (.iconst 1, 1, 0, 0, .int (1)), (.goto 4, 3, 17, 0, .null)]
theorem c_fB_isDigit_k0 : rb_kb 8 prog_1_method_75_code 1 0 b_fB_isDigit_k0 = true := by decide +kernel
def fB_isDigit_0 (v0 : Int32) : Bool :=
  if v0 < (48 : Int32) then false else if (57 : Int32) < v0 then false else true
theorem s_fB_isDigit_0 {X : rb_X} {g : rb_G} {h : rb_H} {v0 : Int32} (C : cx_fB_isDigit X g) {r : Bool} (hF : fB_isDigit_0 v0 = r) : rb_Ok X g 1 (rb_rZ h r) h 0 [(0, .int v0)] [] :=
  (rb_sound C b_fB_isDigit_k0 0 _ _ _ c_fB_isDigit_k0 (And.intro (fun q => have hF := rb_it hF q; (rb_sound C b_fB_isDigit_k16 16 _ _ _ c_fB_isDigit_k16 (And.intro ⟨_, rfl, rfl⟩ (congrArg (rb_rZ _) (hF.symm))))) (fun q => have hF := rb_if hF q; (And.intro (fun q => have hF := rb_it hF q; (rb_sound C b_fB_isDigit_k16 16 _ _ _ c_fB_isDigit_k16 (And.intro ⟨_, rfl, rfl⟩ (congrArg (rb_rZ _) (hF.symm))))) (fun q => have hF := rb_if hF q; (rb_sound C b_fB_isDigit_k17 17 _ _ _ c_fB_isDigit_k17 (And.intro ⟨_, rfl, rfl⟩ (congrArg (rb_rZ _) (hF.symm)))))))))
def fB_isDigit (v0 : Int32) : Bool := fB_isDigit_0 v0
theorem M_fB_isDigit (l : Launch) (g : rb_G) {h : rb_H} {v0 : Int32} {r : Bool} (hF : fB_isDigit v0 = r) : rb_Mt l g (rb_mt 20) 0 [.int v0] h (rb_rZ h r) := rb_Mt_of (o := 8) (Nat.le_of_ble_eq_true rfl) rfl (Nat.le_of_ble_eq_true rfl) (fun X _ C => rb_Ok.sub [0] rfl (s_fB_isDigit_0 (X := X) C  hF))
/-! RentBoard.suits(CC)Z -/
abbrev cx_fB_suits (X : rb_X) (g : rb_G) : Prop := rb_Cx X g 8 prog_1_method_74_code 2 (some Jvm.ClassFile.FieldType.boolean) (1)
def b_fB_suits_k62 : List rb_I := [(.iconst 0, 1, 0, 0, .int (0)), (.ireturn, 1, 0, 0, .null)]
theorem c_fB_suits_k62 : rb_kb 8 prog_1_method_74_code 2 62 b_fB_suits_k62 = true := by decide +kernel
def b_fB_suits_k63 : List rb_I := [(.ireturn, 1, 0, 0, .null)]
theorem c_fB_suits_k63 : rb_kb 8 prog_1_method_74_code 2 63 b_fB_suits_k63 = true := by decide +kernel
def b_fB_suits_k46 : List rb_I := [(.iload_n 0, 1, 0, 0, .null), (.bipush 49, 2, 0, 0, .int (49)), (.if_icmp .lt 13, 3, 62, 0, .null), (.iload_n 0, 1, 0, 0, .null), (.bipush 53, 2, 0, 0, .int (53)), (.if_icmp .gt 7, 3, 62, 0, .null), (.iconst 1, 1, 0, 0, .int (1)), (.goto 4, 3, 63, 0, .null)]
theorem c_fB_suits_k46 : rb_kb 8 prog_1_method_74_code 2 46 b_fB_suits_k46 = true := by decide +kernel
def b_fB_suits_k44 : List rb_I := [(.iconst 0, 1, 0, 0, .int (0)), (.ireturn, 1, 0, 0, .null)]
theorem c_fB_suits_k44 : rb_kb 8 prog_1_method_74_code 2 44 b_fB_suits_k44 = true := by decide +kernel
def b_fB_suits_k45 : List rb_I := [(.ireturn, 1, 0, 0, .null)]
theorem c_fB_suits_k45 : rb_kb 8 prog_1_method_74_code 2 45 b_fB_suits_k45 = true := by decide +kernel
def b_fB_suits_k28 : List rb_I := [(.iload_n 0, 1, 0, 0, .null), (.bipush 97, 2, 0, 0, .int (97)), (.if_icmp .lt 13, 3, 44, 0, .null), (.iload_n 0, 1, 0, 0, .null), (.bipush 101, 2, 0, 0, .int (101)), (.if_icmp .gt 7, 3, 44, 0, .null), (.iconst 1, 1, 0, 0, .int (1)), (.goto 4, 3, 45, 0, .null)]
theorem c_fB_suits_k28 : rb_kb 8 prog_1_method_74_code 2 28 b_fB_suits_k28 = true := by decide +kernel
def b_fB_suits_k64 : List rb_I := [(.iload_n 0, 1, 0, 0, .null), (.invokestatic 445, 3, 30, 1, .null), (.ireturn, 1, 0, 0, .null)]
theorem c_fB_suits_k64 : rb_kb 8 prog_1_method_74_code 2 64 b_fB_suits_k64 = true := by decide +kernel
def b_fB_suits_k0 : List rb_I := [(.iload_n 1, 1, 0, 0, .null), (.lookupswitch 63 #[(49, 45), (97, 27)], 27, 0, 0, .null)]
theorem c_fB_suits_k0 : rb_kb 8 prog_1_method_74_code 2 0 b_fB_suits_k0 = true := by decide +kernel
def fB_suits_0 (v0 : Int32) (v1 : Int32) : Bool :=
  if v1 = 49 then if v0 < (49 : Int32) then false else if (53 : Int32) < v0 then false else true else if v1 = 97 then if v0 < (97 : Int32) then false else if (101 : Int32) < v0 then false else true else (fB_isDigit v0)
theorem s_fB_suits_0 {X : rb_X} {g : rb_G} {h : rb_H} {v0 : Int32} {v1 : Int32} (C : cx_fB_suits X g) {r : Bool} (hF : fB_suits_0 v0 v1 = r) : rb_Ok X g 2 (rb_rZ h r) h 0 [(0, .int v0), (1, .int v1)] [] :=
  (rb_sound C b_fB_suits_k0 0 _ _ _ c_fB_suits_k0 (And.intro (fun q => have hF := rb_it hF q; (rb_sound C b_fB_suits_k46 46 _ _ _ c_fB_suits_k46 (And.intro (fun q => have hF := rb_it hF q; (rb_sound C b_fB_suits_k62 62 _ _ _ c_fB_suits_k62 (And.intro ⟨_, rfl, rfl⟩ (congrArg (rb_rZ _) (hF.symm))))) (fun q => have hF := rb_if hF q; (And.intro (fun q => have hF := rb_it hF q; (rb_sound C b_fB_suits_k62 62 _ _ _ c_fB_suits_k62 (And.intro ⟨_, rfl, rfl⟩ (congrArg (rb_rZ _) (hF.symm))))) (fun q => have hF := rb_if hF q; (rb_sound C b_fB_suits_k63 63 _ _ _ c_fB_suits_k63 (And.intro ⟨_, rfl, rfl⟩ (congrArg (rb_rZ _) (hF.symm)))))))))) (fun q => have hF := rb_if hF q; (And.intro (fun q => have hF := rb_it hF q; (rb_sound C b_fB_suits_k28 28 _ _ _ c_fB_suits_k28 (And.intro (fun q => have hF := rb_it hF q; (rb_sound C b_fB_suits_k44 44 _ _ _ c_fB_suits_k44 (And.intro ⟨_, rfl, rfl⟩ (congrArg (rb_rZ _) (hF.symm))))) (fun q => have hF := rb_if hF q; (And.intro (fun q => have hF := rb_it hF q; (rb_sound C b_fB_suits_k44 44 _ _ _ c_fB_suits_k44 (And.intro ⟨_, rfl, rfl⟩ (congrArg (rb_rZ _) (hF.symm))))) (fun q => have hF := rb_if hF q; (rb_sound C b_fB_suits_k45 45 _ _ _ c_fB_suits_k45 (And.intro ⟨_, rfl, rfl⟩ (congrArg (rb_rZ _) (hF.symm)))))))))) (fun q => have hF := rb_if hF q; (rb_sound C b_fB_suits_k64 64 _ _ _ c_fB_suits_k64 (Exists.intro 0 (Exists.intro _ (And.intro (And.intro (Nat.le_of_ble_eq_true rfl) (And.intro (Nat.le_of_ble_eq_true rfl) (Nat.le_of_ble_eq_true rfl))) (And.intro (M_fB_isDigit X.2.1 g rfl) (And.intro ⟨_, rfl, rb_nb _⟩ (congrArg (rb_rZ _) (hF.symm)))))))))))))
def fB_suits (v0 : Int32) (v1 : Int32) : Bool := fB_suits_0 v0 v1
theorem M_fB_suits (l : Launch) (g : rb_G) {h : rb_H} {v0 : Int32} {v1 : Int32} {r : Bool} (hF : fB_suits v0 v1 = r) : rb_Mt l g (rb_mt 19) 1 [.int v0, .int v1] h (rb_rZ h r) := rb_Mt_of (o := 8) (Nat.le_of_ble_eq_true rfl) rfl (Nat.le_of_ble_eq_true rfl) (fun X _ C => rb_Ok.sub [0, 1] rfl (s_fB_suits_0 (X := X) C  hF))
/-! RentBoard$State.whoStandsOn(I)I -/
abbrev cx_fS_whoStandsOn (X : rb_X) (g : rb_G) : Prop := rb_Cx X g 5 prog_7_method_7_code 3 (some Jvm.ClassFile.FieldType.int) (0)
abbrev E_fS_whoStandsOn_2 (X : rb_X) (g : rb_G) (res : Option Value × rb_H) (o0 : Nat) (v1 : Int32) (h : rb_H) : ((Int32) ⊕ (Unit)) → Prop := (Sum.elim (fun s => rb_Ok X g 3 res h 26 [(2, .int s)] []) (fun s => rb_Ok X g 3 res h 34 [] []))
abbrev T_fS_whoStandsOn_2 (X : rb_X) (g : rb_G) (res : Option Value × rb_H) (o0 : Nat) (v1 : Int32) (h : rb_H) : ((Int32) ⊕ ((Int32) ⊕ (Unit))) → Prop := Sum.elim (fun s => rb_Ok X g 3 res h 2 [(0, .ref o0), (1, .int v1), (2, .int s)] []) (E_fS_whoStandsOn_2 X g res o0 v1 h)
def b_fS_whoStandsOn_k28 : List rb_I := [(.iinc 2 1, 3, 0, 0, .int (1)), (.goto (-29), 3, 2, 0, .null)]
theorem c_fS_whoStandsOn_k28 : rb_kb 5 prog_7_method_7_code 3 28 b_fS_whoStandsOn_k28 = true := by decide +kernel
def fS_whoStandsOn_28l2 (o0 : Nat) (v1 : Int32) (v2 : Int32) (h : rb_H) : Option ((Int32) ⊕ ((Int32) ⊕ (Unit))) :=
  some (.inl (v2 + 1))
theorem s_fS_whoStandsOn_28l2 {X : rb_X} {g : rb_G} {res : Option Value × rb_H} {h : rb_H} {o0 : Nat} {v1 : Int32} {v2 : Int32} (C : cx_fS_whoStandsOn X g) (k0 : rb_sO o0) {D : (Int32) ⊕ ((Int32) ⊕ (Unit))} (hF : fS_whoStandsOn_28l2 o0 v1 v2 h = some D) (hT : T_fS_whoStandsOn_2 X g res o0 v1 h D) : rb_Ok X g 3 res h 28 [(0, .ref o0), (1, .int v1), (2, .int v2)] [] :=
  (rb_sound C b_fS_whoStandsOn_k28 28 _ _ _ c_fS_whoStandsOn_k28 (rb_Ok.sub [1, 2, 0] rfl (have z := rb_lf hF hT; z)))
def b_fS_whoStandsOn_k2 : List rb_I := [(.iload_n 2, 1, 0, 0, .null), (.aload_n 0, 1, 0, 0, .null), (.getfield 33, 3, 5, 5, .null), (.if_icmp .ge 27, 3, 34, 0, .null), (.aload_n 0, 1, 0, 0, .null), (.getfield 18, 3, 5, 2, .null), (.iload_n 2, 1, 0, 0, .null), (.iaload, 1, 0, 0, .null), (.iload_n 1, 1, 0, 0, .null), (.if_icmp .ne 11, 3, 28, 0, .null), (.iload_n 1, 1, 0, 0, .null), (.bipush 25, 2, 0, 0, .int (25)), (.if_icmp .eq 5, 3, 28, 0, .null)]
theorem c_fS_whoStandsOn_k2 : rb_kb 5 prog_7_method_7_code 3 2 b_fS_whoStandsOn_k2 = true := by decide +kernel
def fS_whoStandsOn_2b (o0 : Nat) (v1 : Int32) (v2 : Int32) (h : rb_H) : Option ((Int32) ⊕ ((Int32) ⊕ (Unit))) :=
  if (rb_hF h o0 5) ≤ v2 then some (.inr (.inr ())) else if rb_oob v2 8 then none else if (rb_hI h (o0 + 3) v2.toNatClampNeg) = v1 then if v1 = (25 : Int32) then fS_whoStandsOn_28l2 o0 v1 v2 h else some (.inr (.inl v2)) else fS_whoStandsOn_28l2 o0 v1 v2 h
theorem s_fS_whoStandsOn_2b {X : rb_X} {g : rb_G} {res : Option Value × rb_H} {h : rb_H} {o0 : Nat} {v1 : Int32} {v2 : Int32} (C : cx_fS_whoStandsOn X g) (k0 : rb_sO o0) {D : (Int32) ⊕ ((Int32) ⊕ (Unit))} (hF : fS_whoStandsOn_2b o0 v1 v2 h = some D) (hT : T_fS_whoStandsOn_2 X g res o0 v1 h D) : rb_Ok X g 3 res h 2 [(0, .ref o0), (1, .int v1), (2, .int v2)] [] :=
  (rb_sound C b_fS_whoStandsOn_k2 2 _ _ _ c_fS_whoStandsOn_k2 (And.intro k0.1 (And.intro (fun q => have hF := rb_it hF q; (rb_Ok.sub [] rfl (have z := rb_lf hF hT; z))) (fun q => have hF := rb_if hF q; (And.intro k0.1 (rb_gd hF fun g1 hF => And.intro ⟨(k0.2 2 (Nat.le_of_ble_eq_true rfl)).1, rb_ol (k0.2 2 (Nat.le_of_ble_eq_true rfl)).2 g1⟩ (And.intro (fun q => have hF := rb_if hF q; (rb_Ok.sub [0, 1, 2] rfl (s_fS_whoStandsOn_28l2 C k0 hF hT))) (fun q => have hF := rb_it hF (rb_dn q); (And.intro (fun q => have hF := rb_it hF q; (rb_Ok.sub [0, 1, 2] rfl (s_fS_whoStandsOn_28l2 C k0 hF hT))) (fun q => have hF := rb_if hF q; (rb_Ok.sub [2] rfl (have z := rb_lf hF hT; z))))))))))))
theorem L_fS_whoStandsOn_2 {X : rb_X} {g : rb_G} {res : Option Value × rb_H} {h : rb_H} {o0 : Nat} {v1 : Int32} (C : cx_fS_whoStandsOn X g) (k0 : rb_sO o0) {s0 : Int32} {x : (Int32) ⊕ (Unit)} (hit : rb_iter rb_fuel (fun s => fS_whoStandsOn_2b o0 v1 s h) s0 = some x) (k : E_fS_whoStandsOn_2 X g res o0 v1 h x) : rb_Ok X g 3 res h 2 [(0, .ref o0), (1, .int v1), (2, .int s0)] [] :=
  rb_iter_ok (P := (fun s => rb_Ok X g 3 res h 2 [(0, .ref o0), (1, .int v1), (2, .int s)] [])) (E := E_fS_whoStandsOn_2 X g res o0 v1 h) (fun s D hD hT => s_fS_whoStandsOn_2b C k0 hD hT) k _ _ hit
def b_fS_whoStandsOn_k26 : List rb_I := [(.iload_n 2, 1, 0, 0, .null), (.ireturn, 1, 0, 0, .null)]
theorem c_fS_whoStandsOn_k26 : rb_kb 5 prog_7_method_7_code 3 26 b_fS_whoStandsOn_k26 = true := by decide +kernel
def b_fS_whoStandsOn_k34 : List rb_I := [(.bipush 8, 2, 0, 0, .int (8)), (.ireturn, 1, 0, 0, .null)]
theorem c_fS_whoStandsOn_k34 : rb_kb 5 prog_7_method_7_code 3 34 b_fS_whoStandsOn_k34 = true := by decide +kernel
def b_fS_whoStandsOn_k0 : List rb_I := [(.iconst 0, 1, 0, 0, .int (0)), (.istore_n 2, 1, 0, 0, .null)]
theorem c_fS_whoStandsOn_k0 : rb_kb 5 prog_7_method_7_code 3 0 b_fS_whoStandsOn_k0 = true := by decide +kernel
def fS_whoStandsOn_0 (o0 : Nat) (v1 : Int32) (h : rb_H) : Option (Int32) :=
  (rb_iter rb_fuel (fun s => fS_whoStandsOn_2b o0 v1 s h) (0 : Int32)).bind (Sum.elim (fun x4 => some x4) (fun x5 => some (8 : Int32)))
theorem s_fS_whoStandsOn_0 {X : rb_X} {g : rb_G} {h : rb_H} {o0 : Nat} {v1 : Int32} (C : cx_fS_whoStandsOn X g) (k0 : rb_sO o0) {r : Int32} (hF : fS_whoStandsOn_0 o0 v1 h = some r) : rb_Ok X g 3 (rb_rI h r) h 0 [(0, .ref o0), (1, .int v1)] [] :=
  (rb_sound C b_fS_whoStandsOn_k0 0 _ _ _ c_fS_whoStandsOn_k0 (rb_bd hF fun x2 hx3 hF => rb_Ok.sub [1, 2, 0] rfl (L_fS_whoStandsOn_2 C k0 hx3 (rb_sm x2 hF (fun x4 hF => (rb_sound C b_fS_whoStandsOn_k26 26 _ _ _ c_fS_whoStandsOn_k26 (And.intro ⟨_, rfl, rfl⟩ (congrArg (rb_rI _) ((Option.some.inj hF).symm))))) (fun x5 hF => (rb_sound C b_fS_whoStandsOn_k34 34 _ _ _ c_fS_whoStandsOn_k34 (And.intro ⟨_, rfl, rfl⟩ (congrArg (rb_rI _) ((Option.some.inj hF).symm)))))))))
def fS_whoStandsOn (o0 : Nat) (v1 : Int32) (h : rb_H) : Option (Int32) := fS_whoStandsOn_0 o0 v1 h
theorem M_fS_whoStandsOn (l : Launch) (g : rb_G) {h : rb_H} {o0 : Nat} {v1 : Int32} (k0 : rb_sO o0) {r : Int32} (hF : fS_whoStandsOn o0 v1 h = some r) : rb_Mt l g (rb_mt 22) 0 [.ref o0, .int v1] h (rb_rI h r) := rb_Mt_of (o := 5) (Nat.le_of_ble_eq_true rfl) rfl (Nat.le_of_ble_eq_true rfl) (fun X _ C => rb_Ok.sub [0, 1] rfl (s_fS_whoStandsOn_0 (X := X) C k0 hF))
/-! RentBoard$State.has(I)Z -/
abbrev cx_fS_has (X : rb_X) (g : rb_G) : Prop := rb_Cx X g 5 prog_7_method_4_code 2 (some Jvm.ClassFile.FieldType.boolean) (0)
def b_fS_has_k22 : List rb_I := [(.iconst 0, 1, 0, 0, .int (0)), (.ireturn, 1, 0, 0, .null)]
theorem c_fS_has_k22 : rb_kb 5 prog_7_method_4_code 2 22 b_fS_has_k22 = true := by decide +kernel
def b_fS_has_k23 : List rb_I := [(.ireturn, 1, 0, 0, .null)]
theorem c_fS_has_k23 : rb_kb 5 prog_7_method_4_code 2 23 b_fS_has_k23 = true := by decide +kernel
def b_fS_has_k0 : List rb_I := [(.iload_n 1, 1, 0, 0, .null), (.ifCond .lt 21, 3, 22, 0, .null), (.iload_n 1, 1, 0, 0, .null), (.aload_n 0, 1, 0, 0, .null), (.getfield 33, 3, 5, 5, .null), (.if_icmp .ge 13, 3, 22, 0, .null), (.iload_n 1, 1, 0, 0, .null), (.bipush 8, 2, 0, 0, .int (8)), (.if_icmp .ge 7, 3, 22, 0, .null), (.iconst 1, 1, 0, 0, .int (1)), (.goto 4, 3, 23, 0, .null)]
theorem c_fS_has_k0 : rb_kb 5 prog_7_method_4_code 2 0 b_fS_has_k0 = true := by decide +kernel
def fS_has_0 (o0 : Nat) (v1 : Int32) (h : rb_H) : Bool :=
  if v1 < 0 then false else if (rb_hF h o0 5) ≤ v1 then false else if (8 : Int32) ≤ v1 then false else true
theorem s_fS_has_0 {X : rb_X} {g : rb_G} {h : rb_H} {o0 : Nat} {v1 : Int32} (C : cx_fS_has X g) (k0 : rb_sO o0) {r : Bool} (hF : fS_has_0 o0 v1 h = r) : rb_Ok X g 2 (rb_rZ h r) h 0 [(0, .ref o0), (1, .int v1)] [] :=
  (rb_sound C b_fS_has_k0 0 _ _ _ c_fS_has_k0 (And.intro (fun q => have hF := rb_it hF q; (rb_sound C b_fS_has_k22 22 _ _ _ c_fS_has_k22 (And.intro ⟨_, rfl, rfl⟩ (congrArg (rb_rZ _) (hF.symm))))) (fun q => have hF := rb_if hF q; (And.intro k0.1 (And.intro (fun q => have hF := rb_it hF q; (rb_sound C b_fS_has_k22 22 _ _ _ c_fS_has_k22 (And.intro ⟨_, rfl, rfl⟩ (congrArg (rb_rZ _) (hF.symm))))) (fun q => have hF := rb_if hF q; (And.intro (fun q => have hF := rb_it hF q; (rb_sound C b_fS_has_k22 22 _ _ _ c_fS_has_k22 (And.intro ⟨_, rfl, rfl⟩ (congrArg (rb_rZ _) (hF.symm))))) (fun q => have hF := rb_if hF q; (rb_sound C b_fS_has_k23 23 _ _ _ c_fS_has_k23 (And.intro ⟨_, rfl, rfl⟩ (congrArg (rb_rZ _) (hF.symm))))))))))))
def fS_has (o0 : Nat) (v1 : Int32) (h : rb_H) : Bool := fS_has_0 o0 v1 h
theorem M_fS_has (l : Launch) (g : rb_G) {h : rb_H} {o0 : Nat} {v1 : Int32} (k0 : rb_sO o0) {r : Bool} (hF : fS_has o0 v1 h = r) : rb_Mt l g (rb_mt 41) 0 [.ref o0, .int v1] h (rb_rZ h r) := rb_Mt_of (o := 5) (Nat.le_of_ble_eq_true rfl) rfl (Nat.le_of_ble_eq_true rfl) (fun X _ C => rb_Ok.sub [0, 1] rfl (s_fS_has_0 (X := X) C k0 hF))
/-! RentBoard$State.stands(I)Z -/
abbrev cx_fS_stands (X : rb_X) (g : rb_G) : Prop := rb_Cx X g 5 prog_7_method_5_code 2 (some Jvm.ClassFile.FieldType.boolean) (1)
def b_fS_stands_k23 : List rb_I := [(.iconst 0, 1, 0, 0, .int (0)), (.ireturn, 1, 0, 0, .null)]
theorem c_fS_stands_k23 : rb_kb 5 prog_7_method_5_code 2 23 b_fS_stands_k23 = true := by decide +kernel
def b_fS_stands_k24 : List rb_I := [(.ireturn, 1, 0, 0, .null)]
theorem c_fS_stands_k24 : rb_kb 5 prog_7_method_5_code 2 24 b_fS_stands_k24 = true := by decide +kernel
def b_fS_stands_k0 : List rb_I := [(.aload_n 0, 1, 0, 0, .null), (.iload_n 1, 1, 0, 0, .null), (.invokevirtual 46, 3, 51, 1, .null), (.ifCond .eq 18, 3, 23, 0, .null), (.aload_n 0, 1, 0, 0, .null), (.getfield 18, 3, 5, 2, .null), (.iload_n 1, 1, 0, 0, .null), (.iaload, 1, 0, 0, .null), (.bipush 25, 2, 0, 0, .int (25)), (.if_icmp .eq 7, 3, 23, 0, .null), (.iconst 1, 1, 0, 0, .int (1)), (.goto 4, 3, 24, 0, .null)]
theorem c_fS_stands_k0 : rb_kb 5 prog_7_method_5_code 2 0 b_fS_stands_k0 = true := by decide +kernel
def fS_stands_0 (o0 : Nat) (v1 : Int32) (h : rb_H) : Option (Bool) :=
  if (fS_has o0 v1 h) = true then if rb_oob v1 8 then none else if (rb_hI h (o0 + 3) v1.toNatClampNeg) = (25 : Int32) then some false else some true else some false
theorem s_fS_stands_0 {X : rb_X} {g : rb_G} {h : rb_H} {o0 : Nat} {v1 : Int32} (C : cx_fS_stands X g) (k0 : rb_sO o0) {r : Bool} (hF : fS_stands_0 o0 v1 h = some r) : rb_Ok X g 2 (rb_rZ h r) h 0 [(0, .ref o0), (1, .int v1)] [] :=
  (rb_sound C b_fS_stands_k0 0 _ _ _ c_fS_stands_k0 (And.intro k0.1 (Exists.intro 0 (Exists.intro _ (And.intro (And.intro (Nat.le_of_ble_eq_true rfl) (And.intro (Nat.le_of_ble_eq_true rfl) (Nat.le_of_ble_eq_true rfl))) (And.intro (M_fS_has X.2.1 g k0 rfl) (And.intro (fun q => have hF := rb_if hF (rb_b0 q); (rb_sound C b_fS_stands_k23 23 _ _ _ c_fS_stands_k23 (And.intro ⟨_, rfl, rfl⟩ (congrArg (rb_rZ _) ((Option.some.inj hF).symm))))) (fun q => have hF := rb_it hF (rb_b1 q); (And.intro k0.1 (rb_gd hF fun g3 hF => And.intro ⟨(k0.2 2 (Nat.le_of_ble_eq_true rfl)).1, rb_ol (k0.2 2 (Nat.le_of_ble_eq_true rfl)).2 g3⟩ (And.intro (fun q => have hF := rb_it hF q; (rb_sound C b_fS_stands_k23 23 _ _ _ c_fS_stands_k23 (And.intro ⟨_, rfl, rfl⟩ (congrArg (rb_rZ _) ((Option.some.inj hF).symm))))) (fun q => have hF := rb_if hF q; (rb_sound C b_fS_stands_k24 24 _ _ _ c_fS_stands_k24 (And.intro ⟨_, rfl, rfl⟩ (congrArg (rb_rZ _) ((Option.some.inj hF).symm))))))))))))))))
def fS_stands (o0 : Nat) (v1 : Int32) (h : rb_H) : Option (Bool) := fS_stands_0 o0 v1 h
theorem M_fS_stands (l : Launch) (g : rb_G) {h : rb_H} {o0 : Nat} {v1 : Int32} (k0 : rb_sO o0) {r : Bool} (hF : fS_stands o0 v1 h = some r) : rb_Mt l g (rb_mt 40) 1 [.ref o0, .int v1] h (rb_rZ h r) := rb_Mt_of (o := 5) (Nat.le_of_ble_eq_true rfl) rfl (Nat.le_of_ble_eq_true rfl) (fun X _ C => rb_Ok.sub [0, 1] rfl (s_fS_stands_0 (X := X) C k0 hF))
/-! RentBoard.isSquare(I)Z -/
abbrev cx_fB_isSquare (X : rb_X) (g : rb_G) : Prop := rb_Cx X g 8 prog_1_method_76_code 1 (some Jvm.ClassFile.FieldType.boolean) (0)
def b_fB_isSquare_k14 : List rb_I := [(.iconst 0, 1, 0, 0, .int (0)), (.ireturn, 1, 0, 0, .null)]
theorem c_fB_isSquare_k14 : rb_kb 8 prog_1_method_76_code 1 14 b_fB_isSquare_k14 = true := by decide +kernel
def b_fB_isSquare_k15 : List rb_I := [(.ireturn, 1, 0, 0, .null)]
theorem c_fB_isSquare_k15 : rb_kb 8 prog_1_method_76_code 1 15 b_fB_isSquare_k15 = true := by decide +kernel
def b_fB_isSquare_k0 : List rb_I := [(.iload_n 0, 1, 0, 0, .null), (.ifCond .lt 13, 3, 14, 0, .null), (.iload_n 0, 1, 0, 0, .null), (.bipush 25, 2, 0, 0, .int (25)), (.if_icmp .ge 7, 3, 14, 0, .null), (.iconst 1, 1, 0, 0, .int (1)), (.goto 4, 3, 15, 0, .null)]
theorem c_fB_isSquare_k0 : rb_kb 8 prog_1_method_76_code 1 0 b_fB_isSquare_k0 = true := by decide +kernel
def fB_isSquare_0 (v0 : Int32) : Bool :=
  if v0 < 0 then false else if (25 : Int32) ≤ v0 then false else true
theorem s_fB_isSquare_0 {X : rb_X} {g : rb_G} {h : rb_H} {v0 : Int32} (C : cx_fB_isSquare X g) {r : Bool} (hF : fB_isSquare_0 v0 = r) : rb_Ok X g 1 (rb_rZ h r) h 0 [(0, .int v0)] [] :=
  (rb_sound C b_fB_isSquare_k0 0 _ _ _ c_fB_isSquare_k0 (And.intro (fun q => have hF := rb_it hF q; (rb_sound C b_fB_isSquare_k14 14 _ _ _ c_fB_isSquare_k14 (And.intro ⟨_, rfl, rfl⟩ (congrArg (rb_rZ _) (hF.symm))))) (fun q => have hF := rb_if hF q; (And.intro (fun q => have hF := rb_it hF q; (rb_sound C b_fB_isSquare_k14 14 _ _ _ c_fB_isSquare_k14 (And.intro ⟨_, rfl, rfl⟩ (congrArg (rb_rZ _) (hF.symm))))) (fun q => have hF := rb_if hF q; (rb_sound C b_fB_isSquare_k15 15 _ _ _ c_fB_isSquare_k15 (And.intro ⟨_, rfl, rfl⟩ (congrArg (rb_rZ _) (hF.symm)))))))))
def fB_isSquare (v0 : Int32) : Bool := fB_isSquare_0 v0
theorem M_fB_isSquare (l : Launch) (g : rb_G) {h : rb_H} {v0 : Int32} {r : Bool} (hF : fB_isSquare v0 = r) : rb_Mt l g (rb_mt 47) 0 [.int v0] h (rb_rZ h r) := rb_Mt_of (o := 8) (Nat.le_of_ble_eq_true rfl) rfl (Nat.le_of_ble_eq_true rfl) (fun X _ C => rb_Ok.sub [0] rfl (s_fB_isSquare_0 (X := X) C  hF))
/-! RentBoard.holds(II)Z -/
abbrev cx_fB_holds (X : rb_X) (g : rb_G) : Prop := rb_Cx X g 8 prog_1_method_78_code 2 (some Jvm.ClassFile.FieldType.boolean) (0)
def b_fB_holds_k22 : List rb_I := [(.iconst 0, 1, 0, 0, .int (0)), (.ireturn, 1, 0, 0, .null)]
theorem c_fB_holds_k22 : rb_kb 8 prog_1_method_78_code 2 22 b_fB_holds_k22 = true := by decide +kernel
def b_fB_holds_k23 : List rb_I := [(.ireturn, 1, 0, 0, .null)]
theorem c_fB_holds_k23 : rb_kb 8 prog_1_method_78_code 2 23 b_fB_holds_k23 = true := by decide +kernel
def b_fB_holds_k0 : List rb_I := [(.iload_n 1, 1, 0, 0, .null), (.ifCond .lt 21, 3, 22, 0, .null), (.iload_n 1, 1, 0, 0, .null), (.bipush 32, 2, 0, 0, .int (32)), (.if_icmp .ge 15, 3, 22, 0, .null), (.iload_n 0, 1, 0, 0, .null), (.iload_n 1, 1, 0, 0, .null), (.iushr, 1, 0, 0, .null), (.iconst 1, 1, 0, 0, .int (1)), (.iand, 1, 0, 0, .null), (.ifCond .eq 7, 3, 22, 0, .null), (.iconst 1, 1, 0, 0, .int (1)), (.goto 4, 3, 23, 0, .null)]
theorem c_fB_holds_k0 : rb_kb 8 prog_1_method_78_code 2 0 b_fB_holds_k0 = true := by decide +kernel
def fB_holds_0 (v0 : Int32) (v1 : Int32) : Bool :=
  if v1 < 0 then false else if (32 : Int32) ≤ v1 then false else if ((rb_ushr v0 v1) &&& (1 : Int32)) = 0 then false else true
theorem s_fB_holds_0 {X : rb_X} {g : rb_G} {h : rb_H} {v0 : Int32} {v1 : Int32} (C : cx_fB_holds X g) {r : Bool} (hF : fB_holds_0 v0 v1 = r) : rb_Ok X g 2 (rb_rZ h r) h 0 [(0, .int v0), (1, .int v1)] [] :=
  (rb_sound C b_fB_holds_k0 0 _ _ _ c_fB_holds_k0 (And.intro (fun q => have hF := rb_it hF q; (rb_sound C b_fB_holds_k22 22 _ _ _ c_fB_holds_k22 (And.intro ⟨_, rfl, rfl⟩ (congrArg (rb_rZ _) (hF.symm))))) (fun q => have hF := rb_if hF q; (And.intro (fun q => have hF := rb_it hF q; (rb_sound C b_fB_holds_k22 22 _ _ _ c_fB_holds_k22 (And.intro ⟨_, rfl, rfl⟩ (congrArg (rb_rZ _) (hF.symm))))) (fun q => have hF := rb_if hF q; (And.intro (fun q => have hF := rb_it hF q; (rb_sound C b_fB_holds_k22 22 _ _ _ c_fB_holds_k22 (And.intro ⟨_, rfl, rfl⟩ (congrArg (rb_rZ _) (hF.symm))))) (fun q => have hF := rb_if hF q; (rb_sound C b_fB_holds_k23 23 _ _ _ c_fB_holds_k23 (And.intro ⟨_, rfl, rfl⟩ (congrArg (rb_rZ _) (hF.symm)))))))))))
def fB_holds (v0 : Int32) (v1 : Int32) : Bool := fB_holds_0 v0 v1
theorem M_fB_holds (l : Launch) (g : rb_G) {h : rb_H} {v0 : Int32} {v1 : Int32} {r : Bool} (hF : fB_holds v0 v1 = r) : rb_Mt l g (rb_mt 56) 0 [.int v0, .int v1] h (rb_rZ h r) := rb_Mt_of (o := 8) (Nat.le_of_ble_eq_true rfl) rfl (Nat.le_of_ble_eq_true rfl) (fun X _ C => rb_Ok.sub [0, 1] rfl (s_fB_holds_0 (X := X) C  hF))
/-! RentBoard$State.standingPieces()I -/
abbrev cx_fS_standingPieces (X : rb_X) (g : rb_G) : Prop := rb_Cx X g 5 prog_7_method_8_code 3 (some Jvm.ClassFile.FieldType.int) (2)
abbrev E_fS_standingPieces_4 (X : rb_X) (g : rb_G) (res : Option Value × rb_H) (o0 : Nat) (h : rb_H) : Int32 → Prop := (fun s => rb_Ok X g 3 res h 36 [(1, .int s)] [])
abbrev T_fS_standingPieces_4 (X : rb_X) (g : rb_G) (res : Option Value × rb_H) (o0 : Nat) (h : rb_H) : ((Int32 × Int32) ⊕ (Int32)) → Prop := Sum.elim (fun s => rb_Ok X g 3 res h 4 [(0, .ref o0), (1, .int s.1), (2, .int s.2)] []) (E_fS_standingPieces_4 X g res o0 h)
def b_fS_standingPieces_k28 : List rb_I := [(.ior, 1, 0, 0, .null), (.istore_n 1, 1, 0, 0, .null), (.iinc 2 1, 3, 0, 0, .int (1)), (.goto (-29), 3, 4, 0, .null)]
theorem c_fS_standingPieces_k28 : rb_kb 5 prog_7_method_8_code 3 28 b_fS_standingPieces_k28 = true := by decide +kernel
def fS_standingPieces_28l4 (o0 : Nat) (v2 : Int32) (v90 : Int32) (v91 : Int32) (h : rb_H) : Option ((Int32 × Int32) ⊕ (Int32)) :=
  some (.inl ((v91 ||| v90), (v2 + 1)))
theorem s_fS_standingPieces_28l4 {X : rb_X} {g : rb_G} {res : Option Value × rb_H} {h : rb_H} {o0 : Nat} {v2 : Int32} {v90 : Int32} {v91 : Int32} (C : cx_fS_standingPieces X g) (k0 : rb_sO o0) {D : (Int32 × Int32) ⊕ (Int32)} (hF : fS_standingPieces_28l4 o0 v2 v90 v91 h = some D) (hT : T_fS_standingPieces_4 X g res o0 h D) : rb_Ok X g 3 res h 28 [(0, .ref o0), (2, .int v2)] [.int v90, .int v91] :=
  (rb_sound C b_fS_standingPieces_k28 28 _ _ _ c_fS_standingPieces_k28 (rb_Ok.sub [2, 1, 0] rfl (have z := rb_lf hF hT; z)))
def b_fS_standingPieces_k27 : List rb_I := [(.iconst 0, 1, 0, 0, .int (0))]
theorem c_fS_standingPieces_k27 : rb_kb 5 prog_7_method_8_code 3 27 b_fS_standingPieces_k27 = true := by decide +kernel
def b_fS_standingPieces_k4 : List rb_I := [(.iload_n 2, 1, 0, 0, .null), (.aload_n 0, 1, 0, 0, .null), (.getfield 33, 3, 5, 5, .null), (.if_icmp .ge 27, 3, 36, 0, .null), (.iload_n 1, 1, 0, 0, .null), (.aload_n 0, 1, 0, 0, .null), (.iload_n 2, 1, 0, 0, .null), (.invokevirtual 50, 3, 50, 1, .null), (.ifCond .eq 9, 3, 27, 0, .null), (.iconst 1, 1, 0, 0, .int (1)), (.iload_n 2, 1, 0, 0, .null), (.ishl, 1, 0, 0, .null), (.goto 4, 3, 28, 0, .null)]
theorem c_fS_standingPieces_k4 : rb_kb 5 prog_7_method_8_code 3 4 b_fS_standingPieces_k4 = true := by decide +kernel
def fS_standingPieces_4b (o0 : Nat) (v1 : Int32) (v2 : Int32) (h : rb_H) : Option ((Int32 × Int32) ⊕ (Int32)) :=
  if (rb_hF h o0 5) ≤ v2 then some (.inr v1) else (fS_stands o0 v2 h).bind fun u1 => if u1 = true then fS_standingPieces_28l4 o0 v2 (rb_shl (1 : Int32) v2) v1 h else fS_standingPieces_28l4 o0 v2 (0 : Int32) v1 h
theorem s_fS_standingPieces_4b {X : rb_X} {g : rb_G} {res : Option Value × rb_H} {h : rb_H} {o0 : Nat} {v1 : Int32} {v2 : Int32} (C : cx_fS_standingPieces X g) (k0 : rb_sO o0) {D : (Int32 × Int32) ⊕ (Int32)} (hF : fS_standingPieces_4b o0 v1 v2 h = some D) (hT : T_fS_standingPieces_4 X g res o0 h D) : rb_Ok X g 3 res h 4 [(0, .ref o0), (1, .int v1), (2, .int v2)] [] :=
  (rb_sound C b_fS_standingPieces_k4 4 _ _ _ c_fS_standingPieces_k4 (And.intro k0.1 (And.intro (fun q => have hF := rb_it hF q; (rb_Ok.sub [1] rfl (have z := rb_lf hF hT; z))) (fun q => have hF := rb_if hF q; (rb_bd hF fun u1 hu2 hF => (And.intro k0.1 (Exists.intro 1 (Exists.intro _ (And.intro (And.intro (Nat.le_of_ble_eq_true rfl) (And.intro (Nat.le_of_ble_eq_true rfl) (Nat.le_of_ble_eq_true rfl))) (And.intro (M_fS_stands X.2.1 g k0 hu2) (And.intro (fun q => have hF := rb_if hF (rb_b0 q); (rb_sound C b_fS_standingPieces_k27 27 _ _ _ c_fS_standingPieces_k27 (rb_Ok.sub [0, 2] rfl (s_fS_standingPieces_28l4 C k0 hF hT)))) (fun q => have hF := rb_it hF (rb_b1 q); (rb_Ok.sub [0, 2] rfl (s_fS_standingPieces_28l4 C k0 hF hT))))))))))))))
theorem L_fS_standingPieces_4 {X : rb_X} {g : rb_G} {res : Option Value × rb_H} {h : rb_H} {o0 : Nat} (C : cx_fS_standingPieces X g) (k0 : rb_sO o0) {s0 : Int32 × Int32} {x : Int32} (hit : rb_iter rb_fuel (fun s => fS_standingPieces_4b o0 s.1 s.2 h) s0 = some x) (k : E_fS_standingPieces_4 X g res o0 h x) : rb_Ok X g 3 res h 4 [(0, .ref o0), (1, .int s0.1), (2, .int s0.2)] [] :=
  rb_iter_ok (P := (fun s => rb_Ok X g 3 res h 4 [(0, .ref o0), (1, .int s.1), (2, .int s.2)] [])) (E := E_fS_standingPieces_4 X g res o0 h) (fun s D hD hT => s_fS_standingPieces_4b C k0 hD hT) k _ _ hit
def b_fS_standingPieces_k36 : List rb_I := [(.iload_n 1, 1, 0, 0, .null), (.ireturn, 1, 0, 0, .null)]
theorem c_fS_standingPieces_k36 : rb_kb 5 prog_7_method_8_code 3 36 b_fS_standingPieces_k36 = true := by decide +kernel
def b_fS_standingPieces_k0 : List rb_I := [(.iconst 0, 1, 0, 0, .int (0)), (.istore_n 1, 1, 0, 0, .null), (.iconst 0, 1, 0, 0, .int (0)), (.istore_n 2, 1, 0, 0, .null)]
theorem c_fS_standingPieces_k0 : rb_kb 5 prog_7_method_8_code 3 0 b_fS_standingPieces_k0 = true := by decide +kernel
def fS_standingPieces_0 (o0 : Nat) (h : rb_H) : Option (Int32) :=
  (rb_iter rb_fuel (fun s => fS_standingPieces_4b o0 s.1 s.2 h) ((0 : Int32), (0 : Int32))).bind fun x3 => some x3
theorem s_fS_standingPieces_0 {X : rb_X} {g : rb_G} {h : rb_H} {o0 : Nat} (C : cx_fS_standingPieces X g) (k0 : rb_sO o0) {r : Int32} (hF : fS_standingPieces_0 o0 h = some r) : rb_Ok X g 3 (rb_rI h r) h 0 [(0, .ref o0)] [] :=
  (rb_sound C b_fS_standingPieces_k0 0 _ _ _ c_fS_standingPieces_k0 (rb_bd hF fun x3 hx4 hF => rb_Ok.sub [2, 1, 0] rfl (L_fS_standingPieces_4 C k0 hx4 (rb_sound C b_fS_standingPieces_k36 36 _ _ _ c_fS_standingPieces_k36 (And.intro ⟨_, rfl, rfl⟩ (congrArg (rb_rI _) ((Option.some.inj hF).symm)))))))
def fS_standingPieces (o0 : Nat) (h : rb_H) : Option (Int32) := fS_standingPieces_0 o0 h
theorem M_fS_standingPieces (l : Launch) (g : rb_G) {h : rb_H} {o0 : Nat} (k0 : rb_sO o0) {r : Int32} (hF : fS_standingPieces o0 h = some r) : rb_Mt l g (rb_mt 66) 2 [.ref o0] h (rb_rI h r) := rb_Mt_of (o := 5) (Nat.le_of_ble_eq_true rfl) rfl (Nat.le_of_ble_eq_true rfl) (fun X _ C => rb_Ok.sub [0] rfl (s_fS_standingPieces_0 (X := X) C k0 hF))
