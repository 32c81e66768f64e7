/-! what stays in a run; contracts; what a block of instructions asks -/
def rb_cv (g : rb_G) : Value → Value
  | .ref a => .ref (rb_ad g a)
  | .retAddr k => .ref (rb_as g k)
  | v => v
theorem rb_cv_cat (g : rb_G) (v : Value) : (rb_cv g v).category = v.category := by cases v <;> rfl
def rb_StA (g : rb_G) (A : Nat → Prop) (U : State) (H : Heap) : Prop :=
  (∀ k, k < 8 → va_Z "RentBoard" (rb_sn k) "[I" (.ref (rb_as g k)) A U H ∧ va_T .int (rb_as g k) (rb_sl k) (fun j => .int (rb_sv k j)) A U H) ∧
  va_Z "java/lang/String" "COMPACT_STRINGS" "Z" (.int 1) A U H ∧
  vk_S rb_nS rb_slL rb_sbL (fun i => rb_as g (100 + i)) (fun i => rb_as g (200 + i)) A U H ∧
  va_Z "jdk/internal/util/Preconditions" "SIOOBE_FORMATTER" "Ljava/util/function/BiFunction;" (rb_cv g (rb_so g)) A U H ∧
  va_X (rb_as g 300) (rb_xl g) (rb_xs g) U H ∧ (rb_as g 300 < H.size ∧ ¬ A (rb_as g 300))
abbrev rb_St (g : rb_G) (U : State) (H : Heap) : Prop := rb_StA g (rb_A g) U H
def rb_Nx (U : State) : Prop := ∀ o i y host, Cond.methodLinkNest o i y host ∈ lw_tbl → va_Nw (.methodLinkNest o i y host) U
def rb_Rk (g : rb_G) (U : State) : Prop := ∀ i, i < rb_nS → vk_R (rb_ss i).1 (rb_ss i).2.1 (rb_ss i).2.2 (rb_as g (100 + i)) U
def rb_Sc (g : rb_G) (U : State) : Prop := va_K (rb_D g) rb_cl (rb_tys g) U ∧ rb_Dj g ∧ rb_St g U U.heap ∧ rb_Nx U ∧ rb_Rk g U
theorem rb_StA.go {g : rb_G} {A : Nat → Prop} {u U : State} {H H1 : Heap} (h : rb_StA g A u H) (hvm : u.vm.Alike U.vm) (hz : H.size ≤ H1.size) (hq : ∀ a : Nat, a < H.size → ¬ A a → H1[a]? = H[a]?) : rb_StA g A U H1 :=
  ⟨fun k hk => ⟨((h.1 k hk).1.moved hvm).kept hq, ((h.1 k hk).2.moved hvm).kept hq⟩, (h.2.1.moved hvm).kept hq, (h.2.2.1.moved hvm).kept hq, (h.2.2.2.1.moved hvm).kept hq, (h.2.2.2.2.1.moved hvm).kept (hq _ h.2.2.2.2.2.1 h.2.2.2.2.2.2), Nat.lt_of_lt_of_le h.2.2.2.2.2.1 hz, h.2.2.2.2.2.2⟩
theorem rb_StA.narrow {g : rb_G} {A B : Nat → Prop} {U : State} {H : Heap} (h : rb_StA g A U H) (hAB : ∀ q, B q → A q) : rb_StA g B U H :=
  ⟨fun k hk => ⟨(h.1 k hk).1.narrow hAB, (h.1 k hk).2.narrow hAB⟩, h.2.1.narrow hAB, h.2.2.1.narrow hAB, h.2.2.2.1.narrow hAB, h.2.2.2.2.1, h.2.2.2.2.2.1, fun z => h.2.2.2.2.2.2 (hAB _ z)⟩
theorem rb_Sc.go {g : rb_G} {s U : State} {H : Heap} {locs : List Loc} (h : rb_Sc g s) (hW : s.WarmedH U.vm) (hU : U.heap = H) (hS : va_S (rb_A g) s.heap H locs) : rb_Sc g U :=
  ⟨va_K.moved hW.alike h.1, h.2.1, h.2.2.1.go hW.alike (by rw [hU]; exact hS.1) (fun a h1 h2 => by rw [hU]; exact hS.2.1 a h1 h2), fun o i y host hm => va_Nw.warmM hW (h.2.2.2.1 o i y host hm), fun i hi => vk_R.warm hW (h.2.2.2.2 i hi)⟩
theorem rb_Sc.calling {g : rb_G} {U : State} (h : rb_Sc g U) (gf : JFrame) (mk : MethodId) (a : Array Value) : rb_Sc g (U.calling gf mk a) :=
  ⟨va_K.moved (u := U) (U := U.calling gf mk a) (Vm.Alike.refl U.vm) h.1, h.2.1, rb_StA.go (u := U) (U := U.calling gf mk a) (H := U.heap) (H1 := (U.calling gf mk a).heap) h.2.2.1 (Vm.Alike.refl U.vm) (Nat.le_refl _) (fun _ _ _ => rfl), fun o i y host hm => va_Nw.same rfl (u := U) (U := U.calling gf mk a) rfl (h.2.2.2.1 o i y host hm), fun i hi => vk_R.same (u := U) (U := U.calling gf mk a) rfl (h.2.2.2.2 i hi)⟩
def rb_rm (d : Nat) : Room := { frames := d, cells := 0, slots := 0, locals := 40 * d }
def rb_ws (q : rb_ME) : List Cond := .code q.1 q.2.1 q.2.2.1 q.2.2.2.1 :: rb_tbl
def rb_Pc (g : rb_G) (as : List Value) (h : rb_H) : Array Value → State → Prop := va_Pc (as.map (rb_cv g)) (fun U => va_P (rb_D g) rb_cl (rb_W g h) U.heap ∧ rb_Sc g U)
def rb_Q (g : rb_G) (res : Option Value × rb_H) : Array Value → State → Outcome → State → Prop := fun _ st o t => (o = .returned (res.1.map (rb_cv g)) ∧ va_P (rb_D g) rb_cl (rb_W g res.2) t.heap) ∧ va_F (rb_A g) st t
/-- the contract of a method: with these arguments, over these numbers, it answers so, and leaves these -/
def rb_Mt (l : Launch) (g : rb_G) (q : rb_ME) (d : Nat) (as : List Value) (h : rb_H) (res : Option Value × rb_H) : Prop := Met l q.1 (rb_ws q) (rb_rm d) (rb_Pc g as h) (rb_Q g res) 0 0 (rb_A g)
abbrev rb_X : Type := Program × Launch × Env × Room × State × MethodId × Array Value × List Frame × Method × Code
/-- where a walk stands: class number o, its code, locals, answer, depth -/
def rb_Cx (X : rb_X) (g : rb_G) (o : Nat) (cc : ByteArray) (nL : Nat) (rt : Option FieldType) (d : Nat) : Prop :=
  match X with
  | (p, _, _, R, s, m, args, _, meth, c) => p.tables.exec = Jvm.exec ∧ c.code = cc ∧ c.maxLocals = nL ∧ meth.sig.returnType = rt ∧ s.vm.findClass (rb_on o) = some m.cls ∧ (∀ w ∈ rb_tbl, w.before args s = true) ∧ meth.locks = false ∧ R = rb_rm d ∧ rb_Sc g s
def rb_lc (g : rb_G) (lv : List (Nat × Value)) : List (Nat × Value) := lv.map fun q => (q.1, rb_cv g q.2)
def rb_Ok (X : rb_X) (g : rb_G) (nL : Nat) (res : Option Value × rb_H) (h : rb_H) (pc : Nat) (lv : List (Nat × Value)) (st : List Value) : Prop :=
  match X with
  | (p, l, e, R, s, m, args, below, meth, c) => ∀ (H : Heap) (locs : List Loc) (ls : Array Slot), va_P (rb_D g) rb_cl (rb_W g h) H → va_S (rb_A g) s.heap H locs → lv_has ls nL (rb_lc g lv) → W p l e R s m args below meth c H locs 0 0 (MQ below (rb_Q g res) args s 0 0 (rb_A g)) (F0 m pc ls (st.map (rb_cv g)))
/-- fewer locals, in any order -/
theorem rb_Ok.sub {X : rb_X} {g : rb_G} {nL : Nat} {res : Option Value × rb_H} {h : rb_H} {pc : Nat} {lv lv' : List (Nat × Value)} {st : List Value} (ks : List Nat) (hk : lv_pick lv ks = lv') (k : rb_Ok X g nL res h pc lv' st) : rb_Ok X g nL res h pc lv st := by
  obtain ⟨p, l, e, R, s, m, args, below, meth, c⟩ := X
  intro H locs ls hP hS hl
  refine k H locs ls hP hS (lv_sub hl ks ?_)
  rw [← hk]
  unfold lv_pick rb_lc
  rw [List.map_filterMap]
  refine congrArg (fun f => List.filterMap f ks) (funext fun i => ?_)
  rw [List.getElem?_map]
abbrev rb_I : Type := Instr × Nat × Nat × Nat × Value
def rb_ln : Instr → Nat
  | .iload _ | .lload _ | .aload _ | .istore _ | .lstore _ | .astore _ | .bipush _ | .ldc _ => 2
  | .sipush _ | .ldc_w _ | .ldc2_w _ | .iinc _ _ | .if_icmp _ _ | .ifCond _ _ | .goto _ | .getfield _ | .putfield _ | .getstatic _ | .invokestatic _ | .invokevirtual _ => 3
  | _ => 1
def rb_lg : List (Nat × Value) → Nat → Option Value
  | [], _ => none
  | (j, v) :: t, k => bif j == k then some v else rb_lg t k
def rb_ls1 (k : Nat) (v : Value) (lv : List (Nat × Value)) : List (Nat × Value) := (k, v) :: lv.filter (fun q => !(q.1 == k) && !(q.1 + 1 == k && q.2.category == 2))
def rb_ls2 (k : Nat) (v : Value) (lv : List (Nat × Value)) : List (Nat × Value) := (k, v) :: lv.filter (fun q => !(q.1 == k) && (!(q.1 == k + 1) && !(q.1 + 1 == k && q.2.category == 2)))
theorem rb_lg_mem {g : rb_G} : ∀ {lv : List (Nat × Value)} {k : Nat} {v : Value}, rb_lg lv k = some v → (k, rb_cv g v) ∈ rb_lc g lv
  | [], _, _, h => by cases h
  | (j, w) :: t, k, v, h => by
    unfold rb_lg at h
    by_cases e : j = k
    · subst e
      rw [show (j == j) = true from beq_self_eq_true j] at h
      cases h
      exact List.mem_cons_self
    · rw [show (j == k) = false from beq_eq_false_iff_ne.mpr e] at h
      exact List.mem_cons_of_mem _ (rb_lg_mem h)
theorem rb_ls1_c (g : rb_G) (k : Nat) (v : Value) (lv : List (Nat × Value)) : (k, rb_cv g v) :: (rb_lc g lv).filter (fun q => !(q.1 == k) && !(q.1 + 1 == k && q.2.category == 2)) = rb_lc g (rb_ls1 k v lv) := by
  unfold rb_ls1 rb_lc
  rw [List.map_cons, List.filter_map]
  refine congrArg (fun f => _ :: List.map _ (List.filter f lv)) (funext fun q => ?_)
  show (!(q.1 == k) && !(q.1 + 1 == k && (rb_cv g q.2).category == 2)) = _
  rw [rb_cv_cat]
theorem rb_ls2_c (g : rb_G) (k : Nat) (v : Value) (lv : List (Nat × Value)) : (k, rb_cv g v) :: (rb_lc g lv).filter (fun q => !(q.1 == k) && (!(q.1 == k + 1) && !(q.1 + 1 == k && q.2.category == 2))) = rb_lc g (rb_ls2 k v lv) := by
  unfold rb_ls2 rb_lc
  rw [List.map_cons, List.filter_map]
  refine congrArg (fun f => _ :: List.map _ (List.filter f lv)) (funext fun q => ?_)
  show (!(q.1 == k) && (!(q.1 == k + 1) && !(q.1 + 1 == k && (rb_cv g q.2).category == 2))) = _
  rw [rb_cv_cat]
/-- an index outside -/
abbrev rb_oob (i : Int32) (n : Nat) : Prop := i < 0 ∨ n ≤ i.toNatClampNeg
def rb_cc : Jvm.ClassFile.Cond → Int32 → Int32 → Prop
  | .eq, x, y => x = y
  | .ne, x, y => ¬ x = y
  | .lt, x, y => x < y
  | .ge, x, y => y ≤ x
  | .gt, x, y => y < x
  | .le, x, y => x ≤ y
def rb_ct (st : List Value) : Nat := (st.map fun v => v.category).sum
/-- the instructions that ask for nothing and change no cell -/
def rb_s0 (i : Instr) (v : Value) (lv : List (Nat × Value)) (st : List Value) : Option (List (Nat × Value) × List Value) :=
  match i with
  | .iconst _ | .bipush _ | .sipush _ | .lconst _ | .ldc _ | .ldc_w _ | .ldc2_w _ => some (lv, v :: st)
  | .iload k => match rb_lg lv k with | some (.int x) => some (lv, .int x :: st) | _ => none
  | .iload_n k => match rb_lg lv k.val with | some (.int x) => some (lv, .int x :: st) | _ => none
  | .lload k => match rb_lg lv k with | some (.long x) => some (lv, .long x :: st) | _ => none
  | .lload_n k => match rb_lg lv k.val with | some (.long x) => some (lv, .long x :: st) | _ => none
  | .aload k => match rb_lg lv k with | some (.ref x) => some (lv, .ref x :: st) | some (.retAddr x) => some (lv, .retAddr x :: st) | _ => none
  | .aload_n k => match rb_lg lv k.val with | some (.ref x) => some (lv, .ref x :: st) | some (.retAddr x) => some (lv, .retAddr x :: st) | _ => none
  | .istore k => match st with | .int x :: st => some (rb_ls1 k (.int x) lv, st) | _ => none
  | .istore_n k => match st with | .int x :: st => some (rb_ls1 k.val (.int x) lv, st) | _ => none
  | .lstore k => match st with | .long x :: st => some (rb_ls2 k (.long x) lv, st) | _ => none
  | .lstore_n k => match st with | .long x :: st => some (rb_ls2 k.val (.long x) lv, st) | _ => none
  | .astore k => match st with | .ref x :: st => some (rb_ls1 k (.ref x) lv, st) | .retAddr x :: st => some (rb_ls1 k (.retAddr x) lv, st) | _ => none
  | .astore_n k => match st with | .ref x :: st => some (rb_ls1 k.val (.ref x) lv, st) | .retAddr x :: st => some (rb_ls1 k.val (.retAddr x) lv, st) | _ => none
  | .iinc k _ => match rb_lg lv k with | some (.int x) => (match v with | .int y => some (rb_ls1 k (.int (x + y)) lv, st) | _ => none) | _ => none
  | .pop => match st with | .int _ :: st => some (lv, st) | .ref _ :: st => some (lv, st) | _ => none
  | .dup => match st with | .int x :: st => some (lv, .int x :: .int x :: st) | .ref x :: st => some (lv, .ref x :: .ref x :: st) | _ => none
  | .dup_x1 => match st with | .int x :: .ref y :: st => some (lv, .int x :: .ref y :: .int x :: st) | _ => none
  | .dup2 => match st with | .int x :: .ref y :: st => some (lv, .int x :: .ref y :: .int x :: .ref y :: st) | _ => none
  | .iadd => match st with | .int y :: .int x :: st => some (lv, .int (x + y) :: st) | _ => none
  | .isub => match st with | .int y :: .int x :: st => some (lv, .int (x - y) :: st) | _ => none
  | .imul => match st with | .int y :: .int x :: st => some (lv, .int (x * y) :: st) | _ => none
  | .iand => match st with | .int y :: .int x :: st => some (lv, .int (x &&& y) :: st) | _ => none
  | .ior => match st with | .int y :: .int x :: st => some (lv, .int (x ||| y) :: st) | _ => none
  | .ixor => match st with | .int y :: .int x :: st => some (lv, .int (x ^^^ y) :: st) | _ => none
  | .ishl => match st with | .int y :: .int x :: st => some (lv, .int (x <<< (y &&& 31)) :: st) | _ => none
  | .ishr => match st with | .int y :: .int x :: st => some (lv, .int (x >>> (y &&& 31)) :: st) | _ => none
  | .iushr => match st with | .int y :: .int x :: st => some (lv, .int (x.toUInt32 >>> (y.toUInt32 &&& Int32.toUInt32 31)).toInt32 :: st) | _ => none
  | .ineg => match st with | .int x :: st => some (lv, .int (-x) :: st) | _ => none
  | .ladd => match st with | .long y :: .long x :: st => some (lv, .long (x + y) :: st) | _ => none
  | .lmul => match st with | .long y :: .long x :: st => some (lv, .long (x * y) :: st) | _ => none
  | .lcmp => match st with | .long y :: .long x :: st => some (lv, .int (lg_cmp x y) :: st) | _ => none
  | .i2l => match st with | .int x :: st => some (lv, .long x.toInt64 :: st) | _ => none
  | .i2b => match st with | .int x :: st => some (lv, .int x.toInt8.toInt32 :: st) | _ => none
  | .i2c => match st with | .int x :: st => some (lv, .int (x.toUInt32 % 65536).toInt32 :: st) | _ => none
  | .i2s => match st with | .int x :: st => some (lv, .int x.toInt16.toInt32 :: st) | _ => none
  | _ => none
def rb_sw : List (Int × Int) → Int → Int32 → (Int → Prop) → Prop
  | [], d, _, k => k d
  | (key, off) :: t, d, x, k => (x = Int32.ofInt key → k off) ∧ (¬ x = Int32.ofInt key → rb_sw t d x k)
/-- a boolean field holds 0 or 1 -/
def rb_fz (a b : Nat) (x : Int32) : Prop := match rb_ft a b with
  | .boolean => x = 0 ∨ x = 1
  | _ => True
def rb_nr (rt : Option FieldType) (x : Int32) : Prop := ∃ ty, rt = some ty ∧ narrow ty (.int x) = .int x
/-- what a block asks, so that behind it K holds -/
def rb_wp (l : Launch) (g : rb_G) (d : Nat) (rt : Option FieldType) (res : Option Value × rb_H) (K : rb_H → Nat → List (Nat × Value) → List Value → Prop) : List rb_I → Nat → List (Nat × Value) → List Value → rb_H → Prop
  | [], pc, lv, st, h => K h pc lv st
  | (i, n, a, b, v) :: is, pc, lv, st, h => match i with
    | .goto _ => K h a lv st
    | .if_icmp c _ => match st with
      | .int y :: .int x :: st => (rb_cc c x y → K h a lv st) ∧ (¬ rb_cc c x y → rb_wp l g d rt res K is (pc + n) lv st h)
      | _ => False
    | .ifCond c _ => match st with
      | .int x :: st => (rb_cc c x 0 → K h a lv st) ∧ (¬ rb_cc c x 0 → rb_wp l g d rt res K is (pc + n) lv st h)
      | _ => False
    | .tableswitch dflt lo _ offs => match st with
      | .int x :: st => rb_sw ((List.range offs.size).map fun (j : Nat) => (lo + (j : Int), offs.getD j 0)) dflt x (fun off => K h ((pc : Int) + off).toNat lv st)
      | _ => False
    | .lookupswitch dflt ps => match st with
      | .int x :: st => rb_sw ps.toList dflt x (fun off => K h ((pc : Int) + off).toNat lv st)
      | _ => False
    | .getstatic _ => if a = 1 then rb_wp l g d rt res K is (pc + n) lv (rb_so g :: st) h else rb_wp l g d rt res K is (pc + n) lv (v :: st) h
    | .getfield _ => match st with
      | .ref o :: st => rb_ty o = a ∧ (match rb_fk a b with
        | 0 => rb_wp l g d rt res K is (pc + n) lv (.int (rb_hF h o b) :: st) h
        | 1 => rb_wp l g d rt res K is (pc + n) lv (.ref (rb_sr a o b) :: st) h
        | m + 2 => rb_ty (rb_hR h m) = 13 ∧ rb_wp l g d rt res K is (pc + n) lv (.ref (rb_hR h m) :: st) h)
      | .retAddr k :: st => (a = 20 ∧ 100 ≤ k ∧ k < 100 + rb_nS) ∧ (if b = 0 then rb_wp l g d rt res K is (pc + n) lv (.retAddr (100 + k) :: st) h else rb_wp l g d rt res K is (pc + n) lv (.int 0 :: st) h)
      | _ => False
    | .putfield _ => match st with
      | .int x :: .ref o :: st => (rb_ty o = a ∧ rb_fk a b = 0 ∧ rb_fz a b x) ∧ rb_wp l g d rt res K is (pc + n) lv st (rb_sF h o b x)
      | .ref r :: .ref o :: st => (rb_ty o = a ∧ rb_fk a b = rb_fk a b - 2 + 2 ∧ rb_ty r = 13) ∧ rb_wp l g d rt res K is (pc + n) lv st (rb_sR h (rb_fk a b - 2) r)
      | _ => False
    | .arraylength => match st with
      | .ref o :: st => (10 ≤ rb_ty o ∧ rb_ty o < 17) ∧ rb_wp l g d rt res K is (pc + n) lv (.int (Int32.ofNat (rb_len o)) :: st) h
      | .retAddr k :: st => (k < 8 ∧ rb_wp l g d rt res K is (pc + n) lv (.int (Int32.ofNat (rb_sl k)) :: st) h) ∨ ((200 ≤ k ∧ k < 200 + rb_nS) ∧ rb_wp l g d rt res K is (pc + n) lv (.int (Int32.ofNat (rb_slL.getD (k - 200) 0)) :: st) h) ∨ (k = 300 ∧ rb_wp l g d rt res K is (pc + n) lv (.int (Int32.ofNat (rb_xl g)) :: st) h)
      | _ => False
    | .iaload => match st with
      | .int i :: .ref o :: st => (rb_ty o = 10 ∧ ¬ rb_oob i (rb_len o)) ∧ rb_wp l g d rt res K is (pc + n) lv (.int (rb_hI h o i.toNatClampNeg) :: st) h
      | .int i :: .retAddr k :: st => ((k < 8 ∧ ¬ rb_oob i (rb_sl k)) ∧ rb_wp l g d rt res K is (pc + n) lv (.int (rb_sv k i.toNatClampNeg) :: st) h) ∨ ((k = 300 ∧ ¬ rb_oob i (rb_xl g)) ∧ rb_wp l g d rt res K is (pc + n) lv (.int (rb_xs g i.toNatClampNeg) :: st) h)
      | _ => False
    | .caload => match st with
      | .int i :: .ref o :: st => (rb_ty o = 12 ∧ ¬ rb_oob i (rb_len o)) ∧ rb_wp l g d rt res K is (pc + n) lv (.int (rb_hI h o i.toNatClampNeg) :: st) h
      | _ => False
    | .baload => match st with
      | .int i :: .ref o :: st => ((rb_ty o = 11 ∨ rb_ty o = 13) ∧ ¬ rb_oob i (rb_len o)) ∧ rb_wp l g d rt res K is (pc + n) lv (.int (rb_hI h o i.toNatClampNeg) :: st) h
      | .int i :: .retAddr k :: st => ((200 ≤ k ∧ k < 200 + rb_nS) ∧ ¬ rb_oob i (rb_slL.getD (k - 200) 0)) ∧ rb_wp l g d rt res K is (pc + n) lv (.int ((rb_sbL.getD (k - 200) []).getD i.toNatClampNeg 0) :: st) h
      | _ => False
    | .laload => match st with
      | .int i :: .ref o :: st => (rb_ty o = 14 ∧ ¬ rb_oob i (rb_len o)) ∧ rb_wp l g d rt res K is (pc + n) lv (.long (rb_hJ h o i.toNatClampNeg) :: st) h
      | _ => False
    | .aaload => match st with
      | .int i :: .ref o :: st => ((rb_ty o = 15 ∨ rb_ty o = 16) ∧ ¬ rb_oob i (rb_len o)) ∧ rb_wp l g d rt res K is (pc + n) lv (.ref (rb_ra o i.toNatClampNeg) :: st) h
      | _ => False
    | .iastore => match st with
      | .int x :: .int i :: .ref o :: st => (rb_ty o = 10 ∧ ¬ rb_oob i (rb_len o)) ∧ rb_wp l g d rt res K is (pc + n) lv st (rb_sI h o i.toNatClampNeg x)
      | _ => False
    | .castore => match st with
      | .int x :: .int i :: .ref o :: st => (rb_ty o = 12 ∧ ¬ rb_oob i (rb_len o)) ∧ rb_wp l g d rt res K is (pc + n) lv st (rb_sI h o i.toNatClampNeg (vp_nar .char x))
      | _ => False
    | .bastore => match st with
      | .int x :: .int i :: .ref o :: st => (rb_ty o = a ∧ ¬ rb_oob i (rb_len o)) ∧ rb_wp l g d rt res K is (pc + n) lv st (rb_sI h o i.toNatClampNeg (vp_nar (if a = 11 then .boolean else .byte) x))
      | _ => False
    | .lastore => match st with
      | .long x :: .int i :: .ref o :: st => (rb_ty o = 14 ∧ ¬ rb_oob i (rb_len o)) ∧ rb_wp l g d rt res K is (pc + n) lv st (rb_sJ h o i.toNatClampNeg x)
      | _ => False
    | .idiv => match st with
      | .int y :: .int x :: st => (¬ y = 0) ∧ rb_wp l g d rt res K is (pc + n) lv (.int (x / y) :: st) h
      | _ => False
    | .irem => match st with
      | .int y :: .int x :: st => (¬ y = 0) ∧ rb_wp l g d rt res K is (pc + n) lv (.int (x - x / y * y) :: st) h
      | _ => False
    | .ldiv => match st with
      | .long y :: .long x :: st => (¬ y = 0) ∧ rb_wp l g d rt res K is (pc + n) lv (.long (x / y) :: st) h
      | _ => False
    | .lrem => match st with
      | .long y :: .long x :: st => (¬ y = 0) ∧ rb_wp l g d rt res K is (pc + n) lv (.long (x - x / y * y) :: st) h
      | _ => False
    | .invokestatic _ => match a with
      | 0 => match st with
        | .int k :: .int dp :: .ref q :: .int sp :: .ref o :: st => ((rb_ty o = 10 ∧ rb_ty q = 10) ∧ (¬ sp < 0 ∧ ¬ dp < 0 ∧ ¬ k < 0) ∧ (sp.toNatClampNeg + k.toNatClampNeg ≤ rb_len o ∧ dp.toNatClampNeg + k.toNatClampNeg ≤ rb_len q) ∧ (1 ≤ d ∧ rb_ct st ≤ 8)) ∧ rb_wp l g d rt res K is (pc + n) lv st (rb_cp h o q sp.toNatClampNeg dp.toNatClampNeg k.toNatClampNeg)
        | _ => False
      | 1 => match st with
        | .int y :: .int x :: st => (1 ≤ d ∧ rb_ct st ≤ 8) ∧ rb_wp l g d rt res K is (pc + n) lv (.int (if x < y then y else x) :: st) h
        | _ => False
      | 2 => match st with
        | .int y :: .int x :: st => (1 ≤ d ∧ rb_ct st ≤ 8) ∧ rb_wp l g d rt res K is (pc + n) lv (.int (if y < x then y else x) :: st) h
        | _ => False
      | 3 => match st with
        | .int x :: st => (1 ≤ d ∧ rb_ct st ≤ 8) ∧ rb_wp l g d rt res K is (pc + n) lv (.int (if 0 ≤ x then x else 0 - x) :: st) h
        | _ => False
      | 4 => match st with
        | .long y :: .long x :: st => (1 ≤ d ∧ rb_ct st ≤ 8) ∧ rb_wp l g d rt res K is (pc + n) lv (.long (if y < x then x else y) :: st) h
        | _ => False
      | _ => ∃ (d' : Nat) (v : Option Value) (h' : rb_H), (d' < d ∧ b ≤ st.length ∧ rb_ct (st.drop b) ≤ 8) ∧ rb_Mt l g (rb_mt (a - 10)) d' (st.take b).reverse h (v, h') ∧ rb_wp l g d rt res K is (pc + n) lv (v.toList ++ st.drop b) h'
    | .invokevirtual _ => match st.drop b with
      | .ref o :: rest => rb_ty o = (rb_mt (a - 10)).2.2.2.2.2 ∧ ∃ (d' : Nat) (v : Option Value) (h' : rb_H), (d' < d ∧ b ≤ st.length ∧ rb_ct rest ≤ 8) ∧ rb_Mt l g (rb_mt (a - 10)) d' (.ref o :: (st.take b).reverse) h (v, h') ∧ rb_wp l g d rt res K is (pc + n) lv (v.toList ++ rest) h'
      | .retAddr k :: rest => ((100 ≤ k ∧ k < 100 + rb_nS) ∧ (rb_mt (a - 10)).2.2.2.2.2 = 98) ∧ ∃ (d' : Nat) (v : Option Value) (h' : rb_H), (d' < d ∧ b ≤ st.length ∧ rb_ct rest ≤ 8) ∧ rb_Mt l g (rb_mt (a - 10)) d' (.retAddr k :: (st.take b).reverse) h (v, h') ∧ rb_wp l g d rt res K is (pc + n) lv (v.toList ++ rest) h'
      | _ => False
    | .ireturn => match st with
      | [.int x] => rb_nr rt x ∧ res = (some (.int x), h)
      | _ => False
    | .lreturn => match st with
      | [.long x] => rt = some .long ∧ res = (some (.long x), h)
      | _ => False
    | .areturn => match st with
      | [.retAddr k] => (∃ n, rt = some (.object n)) ∧ res = (some (.retAddr k), h)
      | _ => False
    | .return_ => match st with
      | [] => rt = none ∧ res = (none, h)
      | _ => False
    | i => match rb_s0 i v lv st with
      | some q => rb_wp l g d rt res K is (pc + n) q.1 q.2 h
      | none => False
def rb_is : Value → Nat
  | .int _ => 1
  | .long _ => 2
  | _ => 0
/-- an instruction as the code has it -/
def rb_k1 (o nL : Nat) (pc : Nat) (x : rb_I) : Bool := match x.1 with
  | .iconst n => decide (x.2.2.2.2 = .int (Int32.ofInt n))
  | .bipush n => decide (x.2.2.2.2 = .int (Int8.ofInt n).toInt32)
  | .sipush n => decide (x.2.2.2.2 = .int (Int16.ofInt n).toInt32)
  | .lconst n => decide (x.2.2.2.2 = .long (Int64.ofNat (n : Nat)))
  | .ldc k => decide (rb_cs o k = some x.2.2.2.2) && rb_is x.2.2.2.2 != 2
  | .ldc_w k => decide (rb_cs o k = some x.2.2.2.2) && rb_is x.2.2.2.2 != 2
  | .ldc2_w k => decide (rb_cs o k = some x.2.2.2.2) && rb_is x.2.2.2.2 == 2
  | .getstatic k => if x.2.2.1 = 1 then decide (o = 10 ∧ k = 1053) else match rb_gl o k with | some j => decide (x.2.2.2.2 = .retAddr j) | none => decide (o = 10 ∧ k = 38 ∧ x.2.2.2.2 = .int 1)
  | .getfield k => decide (rb_fl o k = some (x.2.2.1, x.2.2.2.1)) || decide (o = 10 ∧ x.2.2.1 = 20 ∧ ((k = 9 ∧ x.2.2.2.1 = 0) ∨ (k = 15 ∧ x.2.2.2.1 = 1)))
  | .putfield k => decide (rb_fl o k = some (x.2.2.1, x.2.2.2.1)) && decide (((rb_cq x.2.2.1).2.1 x.2.2.2.1).2.2.2 = false)
  | .iinc k n => decide (x.2.2.2.2 = .int (Int32.ofInt n)) && decide (k < nL)
  | .istore k => decide (k < nL)
  | .astore k => decide (k < nL)
  | .istore_n k => decide (k.val < nL)
  | .astore_n k => decide (k.val < nL)
  | .lstore k => decide (k + 1 < nL)
  | .lstore_n k => decide (k.val + 1 < nL)
  | .if_icmp _ off => decide ((pc : Int) + off = (x.2.2.1 : Int))
  | .ifCond _ off => decide ((pc : Int) + off = (x.2.2.1 : Int))
  | .goto off => decide ((pc : Int) + off = (x.2.2.1 : Int))
  | .tableswitch dflt lo hi offs => decide (0 ≤ (pc : Int) + dflt) && offs.toList.all (fun f => decide (0 ≤ (pc : Int) + f)) && decide (hi = lo + offs.size - 1) && decide (-2147483648 ≤ lo ∧ hi ≤ 2147483647)
  | .lookupswitch dflt ps => decide (0 ≤ (pc : Int) + dflt) && ps.toList.all (fun f => decide (0 ≤ (pc : Int) + f.2) && decide (-2147483648 ≤ f.1 ∧ f.1 ≤ 2147483647)) && (ps.toList.zip (ps.toList.drop 1)).all (fun (a, next) => a.1 < next.1)
  | .bastore => decide (x.2.2.1 = 11 ∨ x.2.2.1 = 13)
  | .invokestatic k => match rb_ml o k with
    | some (kind, m) => decide (m = x.2.2.1) && (if x.2.2.1 < 10 then decide (x.2.2.1 < 5 ∧ kind = 0) else decide (x.2.2.1 - 10 < rb_nM) && decide ((rb_mt (x.2.2.1 - 10)).2.2.2.2.1 = x.2.2.2.1) && decide ((rb_mt (x.2.2.1 - 10)).2.2.2.2.2 = 99))
    | none => false
  | .invokevirtual k => match rb_ml o k with
    | some (kind, m) => decide (m = x.2.2.1) && decide (kind = 0) && decide (10 ≤ x.2.2.1) && decide (x.2.2.1 - 10 < rb_nM) && decide ((rb_mt (x.2.2.1 - 10)).2.2.2.2.1 = x.2.2.2.1) && decide ((rb_mt (x.2.2.1 - 10)).2.2.2.2.2 ≠ 99)
    | none => false
  | _ => true
def rb_sws : Instr → Bool
  | .tableswitch .. | .lookupswitch .. => true
  | _ => false
/-- a block as the code has it -/
def rb_kb (o : Nat) (cc : ByteArray) (nL : Nat) : Nat → List rb_I → Bool
  | _, [] => true
  | pc, x :: is => decide (decode cc pc = .ok (x.1, x.2.1)) && (rb_sws x.1 || decide (x.2.1 = rb_ln x.1)) && rb_k1 o nL pc x && rb_kb o cc nL (pc + x.2.1) is
