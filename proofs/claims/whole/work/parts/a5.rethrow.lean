/-! calls that throw; the law's methods that catch them -/
def rx_rm (d : Nat) : Room := { frames := d, cells := 1, slots := 6, locals := 40 * d }
def rx_Pc (g : rb_G) (as : List Value) (h : rb_H) : Array Value → State → Prop := va_Pc (as.map (rb_cv g)) (fun U => va_P (rb_D g) rb_cl (rb_W g h) U.heap ∧ rb_Sc g U ∧ rx_Z (rb_A g) U)
theorem rx_blind (g : rb_G) (as : List Value) (h : rb_H) : FrameBlind (rx_Pc g as h) := fun a U gf mk q => ⟨q.1, q.2.1, q.2.2.1.calling gf mk a, q.2.2.2.calling gf mk a⟩
def rx_XC (g : rb_G) (h : rb_H) : String → State → State → Prop := fun E st t => (E = rx_E ∧ va_P (rb_D g) rb_cl (rb_W g h) t.heap) ∧ va_F (rb_A g) st t
def rx_No : Array Value → State → Outcome → State → Prop := fun _ _ _ _ => False
/-- a call that throws, the world as before -/
def rx_T (l : Launch) (g : rb_G) (q : rb_ME) (d : Nat) (as : List Value) (h : rb_H) : Prop := vx_Met l q.1 (rb_ws q) (rx_rm d) (rx_Pc g as h) rx_No (rx_XC g h) 1 6 (rb_A g)
def rx_Q (X : rb_X) (g : rb_G) (h : rb_H) : State → Prop := match X with | (_, _, _, _, s, _, args, below, _, _) => vx_MQ below rx_No (rx_XC g h) args s 1 6 (rb_A g)
def rx_R (X : rb_X) (g : rb_G) (res : Option Value × rb_H) : State → Prop := match X with | (_, _, _, _, s, _, args, below, _, _) => MQ below (rb_Q g res) args s 1 6 (rb_A g)
def rx_s (X : rb_X) : State := X.2.2.2.2.1
def rx_ht (X : rb_X) : List ExceptionTableEntry := X.2.2.2.2.2.2.2.2.2.exceptionTable.toList
theorem rq_less {X : rb_X} {g : rb_G} {A : Nat → Prop} {o : Nat} {cc : ByteArray} {nL : Nat} {rt : Option FieldType} {d cs ss cs' ss' : Nat} (C : rq_Cx X g A o cc nL rt d cs ss) (h1 : cs' ≤ cs) (h2 : ss' ≤ ss) : rq_Cx X g A o cc nL rt d cs' ss' := by
  obtain ⟨p, l, e, R, s, m, args, below, meth, c⟩ := X
  obtain ⟨hx, hb, hml, hr, hown, hts, hlk, ⟨r1, r2, r3, r4⟩, hSc, hAn, hAo⟩ := C
  exact ⟨hx, hb, hml, hr, hown, hts, hlk, ⟨r1, r2, Nat.le_trans h1 r3, Nat.le_trans h2 r4⟩, hSc, hAn, hAo⟩
theorem rx_T_of {l : Launch} {g : rb_G} {mm o d : Nat} {as : List Value} {h : rb_H} (hm : mm < rb_nM) (ho : rb_on o = (rb_mt mm).1.cls) (hfit : rb_ct as ≤ (rb_mt mm).2.2.1)
    (body : ∀ X : rb_X, X.2.1 = l → rq_Cx X g (rb_A g) o (rb_mt mm).2.1 (rb_mt mm).2.2.1 (rb_mt mm).2.2.2.1 d 1 6 → rx_Z (rb_A g) (rx_s X) → (∀ x ∈ rx_ht X, False) → rq_Ok X g (rb_A g) (rb_mt mm).2.2.1 0 0 (rx_Q X g h) h 0 (lv_args 0 as) []) : rx_T l g (rb_mt mm) d as h := by
  have hmo := rb_mo_all mm hm
  refine vx_ofW (cc := (rb_mt mm).2.1) (maxL := (rb_mt mm).2.2.1) (ret := (rb_mt mm).2.2.2.1) hmo.1 rfl ?_
  intro p e s m args below meth c s₁ B hml ht hv
  obtain ⟨rfl, hP, hSc, hZ⟩ := hv
  have hts := atoms_spec (ws := rb_ws (rb_mt mm)) B.pre
  have hown : s.vm.findClass (rb_mt mm).1.cls = some m.cls := findClass_of_methodNamed B.named
  have hl := lv_entry (as.map (rb_cv g)) (n := (rb_mt mm).2.2.1) (by rw [rb_sl_len]; exact hfit)
  rw [lg_entry_eq]
  rw [rb_args_c] at hl
  exact body (p, l, e, rx_rm d, s, m, (as.map (rb_cv g)).toArray, below, meth, c) rfl ⟨B.exec, B.bytes, hml, B.returns, by rw [ho]; exact hown, fun w hw => hts w (List.mem_cons_of_mem _ hw), B.notSynchronized, ⟨Nat.le_refl _, Nat.le_refl _, Nat.le_refl _, Nat.le_refl _⟩, hSc, fun _ h => h, fun _ _ h => h⟩ hZ ht s.heap [] _ hP va_S.rf hl
section RT
variable {X : rb_X} {g : rb_G} {A : Nat → Prop} {o nL d cs ss pc n b : Nat} {Q : State → Prop} {cc : ByteArray} {rt : Option FieldType} {h : rb_H} {lv : List (Nat × Value)} {st : List Value} {idx : Nat}
theorem rb_ct_c (g : rb_G) (st : List Value) : ((st.map (rb_cv g)).map fun v => v.category).sum = rb_ct st := by
  rw [List.map_map, show ((fun v : Value => v.category) ∘ rb_cv g) = (fun v => v.category) from funext fun v => rb_cv_cat g v]
  rfl
/-- 'throw new NoSuchElementException("..")' -/
theorem rx_throw (C : rq_Cx X g (rb_A g) 8 cc nL rt d 1 6) (hl : X.2.1.stackTraces = false) (hZ : rx_Z (rb_A g) (rx_s X)) (hno : ∀ x ∈ rx_ht X, False) (hd : 6 ≤ d) {i is : Nat} (hi : i < rb_nS) (hs1 : (rb_ss i).1 = "RentBoard") (hs2 : (rb_ss i).2.1 = is) (hct : rb_ct st ≤ 8)
    (d0 : decode cc pc = .ok (.new 169, 3)) (d3 : decode cc (pc + 3) = .ok (.dup, 1)) (d4 : decode cc (pc + 4) = .ok (.ldc is, 2)) (d6 : decode cc (pc + 6) = .ok (.invokespecial 173, 3)) (d9 : decode cc (pc + 9) = .ok (.athrow, 1)) : rq_Ok X g (rb_A g) nL 0 0 (rx_Q X g h) h pc lv st := by
  obtain ⟨p, l, e, R, s, m, args, below, meth, c⟩ := X
  obtain ⟨hx, hb, hml, hr, hown, hts, hlk, ⟨r1, r2, r3, r4⟩, hSc, hAn, hAo⟩ := C
  have hstr := hSc.2.2.2.2 i hi
  rw [hs1, hs2] at hstr
  have hstr : vk_R "RentBoard" is (rb_ss i).2.2 (rb_as g (100 + i)) s := hstr
  intro H locs ls hP hS hlv
  refine rx_makeS hx hb hl hown hts hstr hZ hS (hlv.1.trans hml.symm) d0 d3 d4 d6 (by omega) (by rw [rb_ct_c]; omega) (by omega) (by omega) (fun q H1 ce h1 h2 hq hv hcl => ?_)
  refine vx_athrow hx hb d9 ?_
  exact vx_out (E := rx_E) (fun x hx => (hno x hx).elim) hlk hq hv hcl (fun t ht hW => ⟨⟨rfl, by rw [ht]; exact hP.kept (fun k q hk => h2 _ (vx_lt hP hk))⟩, by rw [ht]; exact Nat.le_trans hS.1 h1, fun q a b => by rw [ht, h2 q (Nat.lt_of_lt_of_le a hS.1)]; exact hS.2.1 q a b⟩) hS.2.2 (Nat.le_refl _) (Nat.le_refl _)
theorem rx_throwW (C : rq_Cx X g (rb_A g) 8 cc nL rt d 1 6) (hl : X.2.1.stackTraces = false) (hZ : rx_Z (rb_A g) (rx_s X)) (hno : ∀ x ∈ rx_ht X, False) (hd : 6 ≤ d) {i is : Nat} (hi : i < rb_nS) (hs1 : (rb_ss i).1 = "RentBoard") (hs2 : (rb_ss i).2.1 = is) (hct : rb_ct st ≤ 8)
    (d0 : decode cc pc = .ok (.new 169, 3)) (d3 : decode cc (pc + 3) = .ok (.dup, 1)) (d4 : decode cc (pc + 4) = .ok (.ldc_w is, 3)) (d6 : decode cc (pc + 7) = .ok (.invokespecial 173, 3)) (d9 : decode cc (pc + 10) = .ok (.athrow, 1)) : rq_Ok X g (rb_A g) nL 0 0 (rx_Q X g h) h pc lv st := by
  obtain ⟨p, l, e, R, s, m, args, below, meth, c⟩ := X
  obtain ⟨hx, hb, hml, hr, hown, hts, hlk, ⟨r1, r2, r3, r4⟩, hSc, hAn, hAo⟩ := C
  have hstr := hSc.2.2.2.2 i hi
  rw [hs1, hs2] at hstr
  have hstr : vk_R "RentBoard" is (rb_ss i).2.2 (rb_as g (100 + i)) s := hstr
  intro H locs ls hP hS hlv
  refine rx_makeSW hx hb hl hown hts hstr hZ hS (hlv.1.trans hml.symm) d0 d3 d4 d6 (by omega) (by rw [rb_ct_c]; omega) (by omega) (by omega) (fun q H1 ce h1 h2 hq hv hcl => ?_)
  refine vx_athrow hx hb d9 ?_
  exact vx_out (E := rx_E) (fun x hx => (hno x hx).elim) hlk hq hv hcl (fun t ht hW => ⟨⟨rfl, by rw [ht]; exact hP.kept (fun k q hk => h2 _ (vx_lt hP hk))⟩, by rw [ht]; exact Nat.le_trans hS.1 h1, fun q a b => by rw [ht, h2 q (Nat.lt_of_lt_of_le a hS.1)]; exact hS.2.1 q a b⟩) hS.2.2 (Nat.le_refl _) (Nat.le_refl _)
/-- a walk that stands with what was caught on its stack -/
def rx_OkC (X : rb_X) (g : rb_G) (A : Nat → Prop) (nL : Nat) (cs ss : Nat) (Q : State → Prop) (h : rb_H) (pc : Nat) : Prop :=
  match X with
  | (p, l, e, R, s, m, args, below, meth, c) => ∀ (H : Heap) (locs : List Loc) (ls : Array Slot) (q : Nat), va_P (rb_D g) rb_cl (rb_W g h) H → va_S A s.heap H locs → lv_has ls nL [] → W p l e R s m args below meth c H locs cs ss Q (F0 m pc ls [.ref q])
/-- a call that throws, and the row that takes it -/
theorem rx_callX (C : rq_Cx X g A 14 cc nL rt d 1 6) (hZ : rx_Z A (rx_s X)) (hdg : decode cc pc = .ok (.invokevirtual idx, 3)) {mm : Nat} (hk : rb_lk 14 idx 0 (mm + 10)) (hm : mm < rb_nM) (hn : (rb_mt mm).2.2.2.2.1 = b) {q : Nat} {rest : List Value} (hst : st.drop b = .ref q :: rest) (hq : rb_ty q = (rb_mt mm).2.2.2.2.2) (h10 : rb_ty q < 10) {d' : Nat} (hd : d' < d ∧ b ≤ st.length ∧ rb_ct rest ≤ 8) (hM : rx_T X.2.1 g (rb_mt mm) d' (.ref q :: (st.take b).reverse) h)
    (x : ExceptionTableEntry) (hht : rx_ht X = [x]) (hcov : covers x pc = true) (h13 : x.catchType = 13) (k : rx_OkC X g A nL 1 6 Q h x.handlerPc) : rq_Ok X g A nL 0 0 Q h pc lv st := by
  obtain ⟨p, l, e, R, s, m, args, below, meth, c⟩ := X
  obtain ⟨hx, hb, hml, hr, hown, hts, hlk, ⟨r1, r2, r3, r4⟩, hSc, hAn, hAo⟩ := C
  have ho := rb_mo_all mm hm
  obtain ⟨o1, o2, o3, o4, o5, o6⟩ := id ho
  rw [if_neg (by rw [← hq]; omega)] at o6
  have hck := List.all_eq_true.mp rb_cls_ck mm (List.mem_range.mpr hm)
  have hck := of_decide_eq_true hck
  have hroom : (rx_rm d').frames + 1 ≤ R.frames ∧ 8 + ((rb_mt mm).2.2.1 + 11) + (rx_rm d').locals ≤ R.locals := by
    have hd1 := hd.1
    refine ⟨?_, ?_⟩
    · show d' + 1 ≤ R.frames
      omega
    · show 8 + (_ + 11) + 40 * d' ≤ R.locals
      omega
  intro H locs ls hP hS0 hl
  have hS := rc_S (g := g) hAo hS0
  obtain ⟨cell, c1, c2, c3⟩ := va_recv hSc.1 hP (rb_cl_at _ h10) (rb_W_o g h (i := q) rfl h10)
  have hstack : st.map (rb_cv g) = (((st.take b).reverse).map (rb_cv g)).reverse ++ .ref (rb_ad g q) :: rest.map (rb_cv g) := by
    rw [List.map_reverse, List.reverse_reverse, show Value.ref (rb_ad g q) = rb_cv g (.ref q) from rfl, ← List.map_cons, ← hst, ← List.map_append, List.take_append_drop]
  have hlen : (((st.take b).reverse).map (rb_cv g)).length = b := by
    rw [List.length_map, List.length_reverse, List.length_take]
    omega
  have hpre : PreV s H (rb_mt mm).1.cls (rb_ad g q) (rx_Pc g (.ref q :: (st.take b).reverse) h) (((st.take b).reverse).map (rb_cv g)) := ⟨rx_blind g _ h, ⟨cell, c1, c2, by rw [← hck (by rw [← hq]; exact h10), ← hq]; exact c3⟩, fun U hU hW => ⟨by rw [List.map_cons]; rfl, by rw [hU]; exact hP, hSc.go hW hU hS, rx_Z.go hZ hW hU hS0 hAn⟩⟩
  have hyo : rb_yo (mm + 10) = (rb_mt mm).1 := by unfold rb_yo; rw [if_neg (by omega), Nat.add_sub_cancel]
  unfold rb_lk at hk
  rw [hyo, if_pos rfl] at hk
  have hrun := vx_runV (l := l) (e := e) (below := below) (meth := meth) (H := H) (locs := locs) (cells := 0) (slots := 0) (g := F0 m pc ls (st.map (rb_cv g))) (Ts := rb_tbl) (own := rb_on 14) (C := (rb_mt mm).1.cls) ⟨hx, hb, hml, hown, hts⟩ hM ⟨callB_of b hts (rb_good _ ho) rfl rfl rfl (hts _ o4) (hts _ hk) ⟨o2.1, o2.2.1, by rw [o2.2.2, hn]⟩ hroom, hts _ o6.1, hts _ o6.2⟩ hpre rfl hlen hl.1 hstack (lv_room (by rw [rb_ct_map]; exact hd.2.2)) hdg (by omega)
  intro T hT XX
  rcases hrun T hT XX with ⟨v, st₀, t, T', L, h0, X', hL, e1, e2, hF, st'⟩ | ⟨q9, st₀, t, T', L, E, ce, h0, X', hL, e1, e2, ⟨⟨hE, hb'⟩, hz, hk'⟩, hce, hcv, hcl, st'⟩
  · exact hF.elim
  · subst hE
    rw [h0] at hz hk'
    have kk := vx_catch (rest := rest.map (rb_cv g)) (pc := pc) (ls := ls) (own := rb_on 14) (name := rx_E) (E := rx_E) (H := T'.heap) (locs := locs ++ L) (cells := 0 + 1) (slots := 0 + 6) (q := q9) hown [] x [] hht (fun z hz => absurd hz List.not_mem_nil) hcov (by rw [h13]; decide) (by rw [h13]; exact hts _ rx_hl) (va_Nw.use rfl hZ.2.2.2.2) (by rw [e1]; exact hce) hcv hcl
      (k T'.heap (locs ++ L) ls q9 (by rw [e1]; exact hb') ⟨Nat.le_trans hS0.1 (by rw [e1]; exact hz), fun q h1 h2 => by rw [e1, hk' q (Nat.lt_of_lt_of_le h1 hS0.1) (fun z => h2 (hAn q z))]; exact hS0.2.1 q h1 h2, fun q hq => by
        rcases List.mem_append.mp hq with h | h
        · exact hS0.2.2 q h
        · exact hAn _ (hL q h)⟩ ⟨hl.1, hl.2.1, fun _ h => absurd h List.not_mem_nil⟩)
    obtain ⟨t2, a1, b1⟩ := kk T' rfl X'
    exact ⟨t2, st'.trans a1, b1⟩
theorem rx_iret {res : Option Value × rb_H} (C : rq_Cx X g (rb_A g) o cc nL rt d 1 6) (h1 : cs ≤ 1) (h2 : ss ≤ 6) (hdg : decode cc pc = .ok (.ireturn, 1)) {x : Int32} (hn : rb_nr rt x) (hres : res = (some (.int x), h)) : rq_Ok X g (rb_A g) nL cs ss (rx_R X g res) h pc lv [.int x] := by
  obtain ⟨p, l, e, R, s, m, args, below, meth, c⟩ := X
  obtain ⟨hx, hb, hml, hr, hown, hts, hlk, hR, hSc, hAn, hAo⟩ := C
  obtain ⟨ty, n1, n2⟩ := hn
  subst hres
  intro H locs ls hP hS hl
  exact W.widen h1 h2 (W.zret (v := x) (ty := ty) hx hb (hr.trans n1) n2 (fun t ht hW => ⟨⟨rfl, by rw [ht]; exact hP⟩, hS.F ht⟩) hS.2.2 hdg hlk)
/-- what was caught is put aside -/
theorem rx_put {j : Nat} (C : rq_Cx X g A o cc nL rt d cs ss) (hj : j < nL) (hdg : decode cc pc = .ok (.astore j, 2)) (k : rq_Ok X g A nL cs ss Q h (pc + 2) [] []) : rx_OkC X g A nL cs ss Q h pc := by
  obtain ⟨p, l, e, R, s, m, args, below, meth, c⟩ := X
  obtain ⟨hx, hb, -⟩ := C
  intro H locs ls q hP hS hl
  exact lv_astore hx hb hdg hl hj rfl (fun ls' hl' => k H locs ls' hP hS ⟨hl'.1, hl'.2.1, fun _ h => absurd h List.not_mem_nil⟩)
theorem rx_putn {j : Fin 4} (C : rq_Cx X g A o cc nL rt d cs ss) (hj : j.val < nL) (hdg : decode cc pc = .ok (.astore_n j, 1)) (k : rq_Ok X g A nL cs ss Q h (pc + 1) [] []) : rx_OkC X g A nL cs ss Q h pc := by
  obtain ⟨p, l, e, R, s, m, args, below, meth, c⟩ := X
  obtain ⟨hx, hb, -⟩ := C
  intro H locs ls q hP hS hl
  exact lv_astore_n hx hb hdg rfl hl hj rfl (fun ls' hl' => k H locs ls' hP hS ⟨hl'.1, hl'.2.1, fun _ h => absurd h List.not_mem_nil⟩)
end RT
/-- a method of the law that catches -/
def rx_He (l : Launch) (g : rb_G) (y : MethodName) (cc : ByteArray) (nL : Nat) (hh : List (Nat × Nat × Nat × Nat)) (d : Nat) (as : List Value) (h : rb_H) (res : Option Value × rb_H) : Prop := Met l y (.codeWith y cc nL (some .int) hh :: rb_tbl) (rx_rm d) (rx_Pc g as h) (rb_Q g res) 1 6 (rb_A g)
theorem rx_He_of {l : Launch} {g : rb_G} {y : MethodName} {cc : ByteArray} {nL d : Nat} {hh : List (Nat × Nat × Nat × Nat)} {as : List Value} {h : rb_H} {res : Option Value × rb_H} (hy : plainName y.cls = true) (ho : rb_on 14 = y.cls) (hfit : rb_ct as ≤ nL)
    (body : ∀ X : rb_X, X.2.1 = l → rq_Cx X g (rb_A g) 14 cc nL (some .int) d 1 6 → rx_Z (rb_A g) (rx_s X) → rx_ht X = tableOf hh → rq_Ok X g (rb_A g) nL 0 0 (rx_R X g res) h 0 (lv_args 0 as) []) : rx_He l g y cc nL hh d as h res := by
  refine va_MetW (hh := hh) (cc := cc) (maxL := nL) (ret := some .int) hy rfl ?_
  intro p e s m args below meth c s₁ B hml hv
  obtain ⟨rfl, hP, hSc, hZ⟩ := hv
  have hts := atoms_spec (ws := .codeWith y cc nL (some .int) hh :: rb_tbl) B.pre
  have ht := vx_table (x := y) B (hts _ List.mem_cons_self)
  have hown : s.vm.findClass y.cls = some m.cls := findClass_of_methodNamed B.named
  have hl := lv_entry (as.map (rb_cv g)) (n := nL) (by rw [rb_sl_len]; exact hfit)
  rw [lg_entry_eq]
  rw [rb_args_c] at hl
  exact body (p, l, e, rx_rm d, s, m, (as.map (rb_cv g)).toArray, below, meth, c) rfl ⟨B.exec, B.bytes, hml, B.returns, by rw [ho]; exact hown, fun w hw => hts w (List.mem_cons_of_mem _ hw), B.notSynchronized, ⟨Nat.le_refl _, Nat.le_refl _, Nat.le_refl _, Nat.le_refl _⟩, hSc, fun _ h => h, fun _ _ h => h⟩ hZ ht s.heap [] _ hP va_S.rf hl
