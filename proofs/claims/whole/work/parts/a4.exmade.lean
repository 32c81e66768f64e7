/-! an exception object whose class has a link of its own into the chain of constructors -/
def rx_at (own : String) (ic : Nat) (X : String) (ix : Nat) (rx : ByteArray) (sup : String) (names : List String) : List Cond :=
  Bundle.throwableAtoms ++ Bundle.throwableSAtoms ++ (Bundle.passSAtoms X sup ix rx ++ Bundle.chainSAtoms sup names) ++
  [.methodLink own ic (Bundle.initS X), .instantiable X 6, .castable X X, .selects X Bundle.tFill0 Bundle.tFill0, .selects X Bundle.tFill Bundle.tFill,
   .lays X Bundle.tN "cause" "Ljava/lang/Throwable;", .lays X Bundle.tN "stackTrace" Bundle.steD, .lays X Bundle.tN "suppressedExceptions" Bundle.listD, .lays X Bundle.tN "detailMessage" "Ljava/lang/String;",
   .isRef (.static Bundle.tN "UNASSIGNED_STACK" Bundle.steD), .isRef (.static Bundle.tN "SUPPRESSED_SENTINEL" Bundle.listD),
   .fieldLink Bundle.tN 198 Bundle.tN "backtrace" "Ljava/lang/Object;", .lays Bundle.tN Bundle.tN "backtrace" "Ljava/lang/Object;", .lays X Bundle.tN "backtrace" "Ljava/lang/Object;"]
theorem rx_chain {args : Array Value} {s : State} {pl : Platform} (hpl : pl.magicAccessors = ({} : Platform).magicAccessors) {top : MethodId} (htop : s.methodNamed? (Bundle.initS Bundle.tN) = some top)
    {ix : Nat} {rx : ByteArray} (x0 : decode rx 0 = .ok (.aload_n 0, 1)) (x1 : decode rx 1 = .ok (.aload_n 1, 1)) (x2 : decode rx 2 = .ok (.invokespecial ix, 3)) (x5 : decode rx 5 = .ok (.return_, 1))
    (r : List String) (X Y : String) (hX : Bundle.fit X = true) (hY : Bundle.fit Y = true) (hn : ∀ n ∈ r, Bundle.fit n = true) (h : ∀ c ∈ Bundle.passSAtoms X Y ix rx ++ Bundle.chainSAtoms Y r, c.before args s = true) :
      ∃ (P1 : PassC) (Ps : List PassC), Ps.length = r.length + 1 ∧ P1.LinksS pl s ∧ (∀ P, P ∈ Ps → P.LinksS pl s) ∧ s.methodNamed? (Bundle.initS X) = some P1.m ∧
        P1.sup = firstOf top (Ps.map (·.toPassT)) ∧ PassesOn top (Ps.map (·.toPassT)) := by
  obtain ⟨P, L, hm, hs⟩ := PassC.ofS_atoms (args := args) (s := s) hpl (X := X) (Y := Y) (Bundle.fit_spec hX).1 (Bundle.fit_spec hY).2 x0 x1 x2 x5 (fun c hc => h c (List.mem_append_left _ hc))
  obtain ⟨P', Ps, hlen, L', hL, hm', hsup, hpass⟩ := Bundle.chainS (args := args) hpl htop r Y hY hn (fun c hc => h c (List.mem_append_right _ hc))
  refine ⟨P, P' :: Ps, by simp [hlen], L, ?_, hm, Option.some.inj (hs.symm.trans hm'), hsup, hpass⟩
  intro Q hQ
  rcases List.mem_cons.mp hQ with rfl | hQ
  · exact L'
  · exact hL Q hQ
section RXK
variable {p : Program} {l : Launch} {e : Env} {R : Room} {s : State} {m₀ : MethodId} {args : Array Value} {below : List Frame} {meth : Method} {c : Code} {W : State} {locs : List Loc} {cells slots : Nat}
set_option maxHeartbeats 1000000 in
theorem rx_ctorMadeS (X : Stand p l e R s m₀ args below meth c W locs cells slots) (hexec : p.tables.exec = Jvm.exec) (htr : e.platform.stackTraces = false) {own cls sup : String} {names : List String} {ic ix : Nat} {rx : ByteArray} (x0 : decode rx 0 = .ok (.aload_n 0, 1)) (x1 : decode rx 1 = .ok (.aload_n 1, 1)) (x2 : decode rx 2 = .ok (.invokespecial ix, 3)) (x5 : decode rx 5 = .ok (.return_, 1))
    (hown : s.vm.findClass own = some m₀.cls) (hcls : Bundle.fit cls = true) (hsup : Bundle.fit sup = true) (hnames : ∀ n ∈ names, Bundle.fit n = true)
    (h : ∀ a ∈ rx_at own ic cls ix rx sup names, a.before args s = true)
    (hlocs : ∀ x ∈ locs, ∀ cell, s.heap[x.base]? = some cell → cell.vm.isStatics = false)
    {a : Addr} {cX : ClassId} {kX : Class} (hfoundX : s.vm.findClass cls = some cX) (hkX : s.vm.classes[cX]? = some kX) (hcell : W.heap[a]? = some (freshCell cX kX)) (hnew : s.heap.size ≤ a)
    {msg : Value} (hmsg : msg.isRef = true)
    {g : JFrame} (hg : g.method = m₀) (hsize : g.locals.size = c.maxLocals) {rest : List Value} (hstack : g.stack = msg :: .ref a :: .ref a :: rest)
    (hd6 : decode c.code g.pc = .ok (.invokespecial ic, 3))
    (hRframes : names.length + 4 < R.frames) (hRlocals : 2 * g.monitorRoom + ((Value.ref a :: rest).map fun v => v.category).sum + (13 * (names.length + 2) + 42) ≤ R.locals) :
    ∃ (V : State) (ce : Cell) (L : List Loc), Stand p l e R s m₀ args below meth c (V.setCell a ce) (locs ++ L) cells slots ∧ (∀ y ∈ L, y.base = a) ∧ a < V.heap.size ∧ ce.cls = cX ∧ ce.vm = .none ∧
      ∀ target, Steps p.tables e below ((V.setCell a ce).setTop { g with stack := .ref a :: rest, pc := g.pc + 3 }) target → Steps p.tables e below (W.setTop g) target := by
  have howns : e.platform.frameOwnsMonitors = true := by rw [X.admits.platform]
  have hfin : e.platform.finalization = false := by rw [X.admits.platform]
  have hpl : e.platform.magicAccessors = ({} : Platform).magicAccessors := by rw [X.admits.platform]
  have a' : ∀ x, x ∈ rx_at own ic cls ix rx sup names → x.holds args s none s [] = true := fun x hx => h x hx
  obtain ⟨T, Z0, L, -, Y⟩ := ThrowableC.of_atoms (args := args) howns hfin hpl (fun x hx => h x (by simp [rx_at, hx]))
  obtain ⟨Z, M, LZ, LM, hnZ⟩ := Init0T.ofS_atoms (args := args) hpl L Y (fun x hx => h x (by simp [rx_at, hx]))
  obtain ⟨P1, Ps, hlen, L1, hL, hP1m, hlink1, hlink⟩ := rx_chain (args := args) hpl hnZ x0 x1 x2 x5 names cls sup hcls hsup hnames (fun x hx => h x (by unfold rx_at; exact List.mem_append_left _ (List.mem_append_right _ hx)))
  have hfound : s.vm.findClass cls = some P1.m.cls := findClass_of_methodNamed hP1m
  cases Option.some.inj (hfoundX.symm.trans hfound)
  obtain ⟨c1, kX', hc1, hk, hord, -, -, hn6⟩ := Cond.instantiable_spec (a' (.instantiable cls 6) (by simp [rx_at]))
  cases Option.some.inj (hc1.symm.trans hfound)
  cases Option.some.inj (hkX.symm.trans hk)
  have hsel0 : selectMethod e.platform s.vm P1.m.cls T.fill0 = .method T.fill0 := by
    obtain ⟨c2, r2, m2, q1, q2, q3, q4, -⟩ := Cond.selects_spec (a' (.selects cls Bundle.tFill0 Bundle.tFill0) (by simp [rx_at]))
    cases Option.some.inj (q1.symm.trans hfound)
    cases Option.some.inj (q2.symm.trans (State.methodFound?_of_named Y.fill0 (by decide)))
    cases Option.some.inj (q3.symm.trans Y.fill0)
    rw [Launch.admits_selectMethod X.admits]; exact q4
  have hselF : selectMethod e.platform s.vm P1.m.cls T.fill = .method T.fill := by
    obtain ⟨c2, r2, m2, q1, q2, q3, q4, -⟩ := Cond.selects_spec (a' (.selects cls Bundle.tFill Bundle.tFill) (by simp [rx_at]))
    cases Option.some.inj (q1.symm.trans hfound)
    cases Option.some.inj (q2.symm.trans (State.methodFound?_of_named Y.fill (by decide)))
    cases Option.some.inj (q3.symm.trans Y.fill)
    rw [Launch.admits_selectMethod X.admits]; exact q4
  obtain ⟨cellS0, hcS0, hiss⟩ := Y.statics
  obtain ⟨u0, hu0⟩ := Cond.staticRefV Y.unassigned L.unassignedStatic L.statics hcS0 hiss (a' (.isRef (.static Bundle.tN "UNASSIGNED_STACK" Bundle.steD)) (by simp [rx_at]))
  obtain ⟨sen, hsen⟩ := Cond.staticRefV Y.sentinel L.sentinelStatic L.statics hcS0 hiss (a' (.isRef (.static Bundle.tN "SUPPRESSED_SENTINEL" Bundle.listD)) (by simp [rx_at]))
  obtain ⟨ci198, i198, fB, hk198, hg198, ha198, hsB, -, hnB, htB, hffB⟩ := Cond.ownField (t := .object "java/lang/Object") Y.found L.cls (by decide +kernel) (a' (.fieldLink Bundle.tN 198 Bundle.tN "backtrace" "Ljava/lang/Object;") (by simp [rx_at])) (a' (.lays Bundle.tN Bundle.tN "backtrace" "Ljava/lang/Object;") (by simp [rx_at])) e.platform hpl
  obtain ⟨cellS, hcS', heS, -, hkeep⟩ := X.same.2.2.2.2.2 T.aS cellS0 hcS0
  have hcellS : W.heap[T.aS]? = some cellS := hcS'
  have hout' : ∀ i, (⟨T.aS, i⟩ : Loc) ∉ locs := fun i hmem => by
    have := hlocs _ hmem cellS0 hcS0
    rw [hiss] at this; cases this
  have hknownS : cellS.vm ≠ .unknown := by
    rw [heS]; intro hu
    rw [show cellS0.vm = .unknown from hu] at hiss
    cases hiss
  have hneS : T.aS ≠ a := Nat.ne_of_lt (Nat.lt_of_lt_of_le (Array.getElem?_eq_some_iff.mp hcS0).1 hnew)
  obtain ⟨iM, hffM⟩ := Y.msg
  obtain ⟨tyC, dC, hdC, hdnC⟩ := Cond.laysAt hfound hk Y.cause (a' (.lays cls Bundle.tN "cause" "Ljava/lang/Throwable;") (by simp [rx_at]))
  obtain ⟨tyS, dS, hdS, hdnS⟩ := Cond.laysAt hfound hk Y.stack (a' (.lays cls Bundle.tN "stackTrace" Bundle.steD) (by simp [rx_at]))
  obtain ⟨tyP, dP, hdP, hdnP⟩ := Cond.laysAt hfound hk Y.supp (a' (.lays cls Bundle.tN "suppressedExceptions" Bundle.listD) (by simp [rx_at]))
  obtain ⟨tyM, dM, hdM, hdnM⟩ := Cond.laysAt hfound hk hffM (a' (.lays cls Bundle.tN "detailMessage" "Ljava/lang/String;") (by simp [rx_at]))
  obtain ⟨tyB, dB, hdB, hdnB⟩ := Cond.laysAt hfound hk hffB (a' (.lays cls Bundle.tN "backtrace" "Ljava/lang/Object;") (by simp [rx_at]))
  have bC := Cond.laysApart hdB hdC hdnB hdnC (by rw [hnB, Y.causeName]; decide)
  have bS := Cond.laysApart hdB hdS hdnB hdnS (by rw [hnB, Y.stackName]; decide)
  have bP := Cond.laysApart hdB hdP hdnB hdnP (by rw [hnB, Y.suppName]; decide)
  have hskip : SkipFacts T e.platform s (fun u => u) u0 ((preparedCellV T.toThrowableT (freshCell P1.m.cls kX) a u0 sen).withEntry W.cur) :=
    ⟨{ ci198 := ci198, i198 := i198, fBack := fB }, ⟨hk198, hg198, ha198, hsB⟩, by
      have := fresh_default (c := P1.m.cls) tyB
      rw [htB] at this
      simpa [preparedCellV, Cell.setSlot, Cell.withEntry, Array.getElem?_setIfInBounds, bC, bS, bP, bC.symm, bS.symm, bP.symm, defaultValue] using this, fun _ _ => rfl⟩
  obtain ⟨tm, methC, cdC, kC, vm₁, hnC, -, -, -, -, -, -, -, hW₁, st1⟩ := Steps.initColdS (tb := p.tables) (e := e) (below := below) (s := s) (U := W) X.here hexec X.warmed hpl hown (t := Bundle.initS cls) rfl rfl (Bundle.fit_spec hcls).2
    (a' (.methodLink own ic (Bundle.initS cls)) (by simp [rx_at])) (h (.instanceMethod (Bundle.initS cls)) (by simp [rx_at, Bundle.passSAtoms])) (bytes := rx) (maxL := 2) (h (.code (Bundle.initS cls) rx 2 none) (by simp [rx_at, Bundle.passSAtoms]))
    (f := g) hg (a := a) (msg := msg) (rest := .ref a :: rest) hstack hd6
  cases Option.some.inj (hnC.symm.trans hP1m)
  have X₁ := X.noted hW₁
  obtain ⟨vm₂, X₂, st2⟩ := X₁.ctorMessageOffV hexec (g := { g with stack := .ref a :: rest }) hg hsize T L Z LZ M LM (P1 :: Ps)
    (fun P hP => by rcases List.mem_cons.mp hP with rfl | hP; exact L1; exact hL P hP) ⟨hlink1, hlink⟩ (u0 := u0) (sen := sen) (self := a) hmsg (cell := freshCell P1.m.cls kX) (cellS := cellS)
    hcell (fun _ => by simp) (by simp) rfl rfl hsel0 hselF hcellS hneS hknownS (by rw [hkeep _ (hout' _)]; exact hu0) (by rw [hkeep _ (hout' _)]; exact hsen)
    (Takes.of_laid hk hord tyC (by rw [Y.causeType]; rfl)) (Takes.of_laid hk hord tyS (by rw [Y.stackType]; exact fits_refV_array _ u0)) (Takes.of_laid hk hord tyP (by rw [Y.suppType]; exact fits_refV_object _ sen))
    (Takes.of_laid hk hord tyM (by rw [Y.msgType]; exact fits_refV_object _ ⟨msg, hmsg⟩)) Y.objLocals hskip htr [] hd6
    (by simp only [List.length_cons, hlen]; omega) (by simp only [List.length_cons, hlen]; exact hRlocals)
  have hlt : a < ((W.setVm vm₁).setVm vm₂).heap.size := (Array.getElem?_eq_some_iff.mp hcell).1
  refine ⟨(W.setVm vm₁).setVm vm₂, _, _, X₂, fun y hy => ?_, hlt, rfl, rfl, fun target hwalk => st1 _ (fun acts => ?_)⟩
  · simp only [List.mem_cons, List.not_mem_nil, or_false] at hy
    rcases hy with rfl | rfl | rfl | rfl | rfl <;> rfl
  · rw [doInvoke_state]
    exact st2 _ hwalk

end RXK
abbrev rx_E : String := "java/util/NoSuchElementException"
abbrev rx_al : List Cond := rx_at "RentBoard" 173 rx_E 13 prog_28_method_4_code "java/lang/RuntimeException" ["java/lang/Exception"]
/-- what a throw asks beside the good words, seen from U; A: what may be written since -/
def rx_Z (A : Nat → Prop) (U : State) : Prop :=
  (vx_Zq Bundle.tN "UNASSIGNED_STACK" Bundle.steD A U U.heap ∧ vx_Zq Bundle.tN "SUPPRESSED_SENTINEL" Bundle.listD A U U.heap) ∧ va_Nw (.declares (Bundle.initS "java/lang/RuntimeException")) U ∧ va_Nw (.declares (Bundle.initS "java/lang/Exception")) U ∧ va_Nw (.declares (Bundle.initS Bundle.tN)) U ∧ va_Nw (.castable rx_E rx_E) U
theorem rx_Z.go {A B : Nat → Prop} {s U : State} {H : Heap} {locs : List Loc} (h : rx_Z A s) (hW : s.WarmedH U.vm) (hU : U.heap = H) (hS : va_S A s.heap H locs) (hBA : ∀ q, B q → A q) : rx_Z B U := by
  obtain ⟨⟨h1, h2⟩, h3, h4, h5, h6⟩ := h
  refine ⟨⟨?_, ?_⟩, va_Nw.warmD hW h3, va_Nw.warmD hW h4, va_Nw.warmD hW h5, va_Nw.warmC hW h6⟩
  · rw [hU]; exact vx_Zq.narrow (vx_Zq.moved hW.alike (h1.kept hS.2.1)) hBA
  · rw [hU]; exact vx_Zq.narrow (vx_Zq.moved hW.alike (h2.kept hS.2.1)) hBA
theorem rx_Z.calling {A : Nat → Prop} {U : State} (h : rx_Z A U) (gf : JFrame) (mk : MethodId) (a : Array Value) : rx_Z A (U.calling gf mk a) := by
  obtain ⟨⟨h1, h2⟩, h3, h4, h5, h6⟩ := h
  exact ⟨⟨vx_Zq.moved (u := U) (U := U.calling gf mk a) (Vm.Alike.refl U.vm) h1, vx_Zq.moved (u := U) (U := U.calling gf mk a) (Vm.Alike.refl U.vm) h2⟩, va_Nw.same rfl (u := U) (U := U.calling gf mk a) rfl h3, va_Nw.same rfl (u := U) (U := U.calling gf mk a) rfl h4, va_Nw.same rfl (u := U) (U := U.calling gf mk a) rfl h5, va_Nw.same rfl (u := U) (U := U.calling gf mk a) rfl h6⟩
theorem rx_m0 : rx_al.getD 0 (.initialized "") ∈ rb_tbl := (rb_w1 18 rfl rfl)
theorem rx_m1 : rx_al.getD 1 (.initialized "") ∈ rb_tbl := (rb_w5 97 rfl rfl)
theorem rx_m2 : rx_al.getD 2 (.initialized "") ∈ rb_tbl := (rb_w5 106 rfl rfl)
theorem rx_m3 : rx_al.getD 3 (.initialized "") ∈ rb_tbl := (rb_w5 108 rfl rfl)
theorem rx_m4 : rx_al.getD 4 (.initialized "") ∈ rb_tbl := (rb_w5 111 rfl rfl)
theorem rx_m5 : rx_al.getD 5 (.initialized "") ∈ rb_tbl := (rb_w5 113 rfl rfl)
theorem rx_m6 : rx_al.getD 6 (.initialized "") ∈ rb_tbl := (rb_w5 98 rfl rfl)
theorem rx_m7 : rx_al.getD 7 (.initialized "") ∈ rb_tbl := (rb_w5 99 rfl rfl)
theorem rx_m8 : rx_al.getD 8 (.initialized "") ∈ rb_tbl := (rb_w1 30 rfl rfl)
theorem rx_m9 : rx_al.getD 9 (.initialized "") ∈ rb_tbl := (rb_w1 31 rfl rfl)
theorem rx_m10 : rx_al.getD 10 (.initialized "") ∈ rb_tbl := (rb_w5 100 rfl rfl)
theorem rx_m11 : rx_al.getD 11 (.initialized "") ∈ rb_tbl := (rb_w5 105 rfl rfl)
theorem rx_m12 : rx_al.getD 12 (.initialized "") ∈ rb_tbl := (rb_w5 109 rfl rfl)
theorem rx_m13 : rx_al.getD 13 (.initialized "") ∈ rb_tbl := (rb_w5 129 rfl rfl)
theorem rx_m14 : rx_al.getD 14 (.initialized "") ∈ rb_tbl := (rb_w5 87 rfl rfl)
theorem rx_m15 : rx_al.getD 15 (.initialized "") ∈ rb_tbl := (rb_w5 130 rfl rfl)
theorem rx_m16 : rx_al.getD 16 (.initialized "") ∈ rb_tbl := (rb_w5 89 rfl rfl)
theorem rx_m17 : rx_al.getD 17 (.initialized "") ∈ rb_tbl := (rb_w5 131 rfl rfl)
theorem rx_m18 : rx_al.getD 18 (.initialized "") ∈ rb_tbl := (rb_w5 91 rfl rfl)
theorem rx_m19 : rx_al.getD 19 (.initialized "") ∈ rb_tbl := (rb_w5 101 rfl rfl)
theorem rx_m21 : rx_al.getD 21 (.initialized "") ∈ rb_tbl := (rb_w5 103 rfl rfl)
theorem rx_m23 : rx_al.getD 23 (.initialized "") ∈ rb_tbl := (rb_w5 93 rfl rfl)
theorem rx_m24 : rx_al.getD 24 (.initialized "") ∈ rb_tbl := (rb_w5 125 rfl rfl)
theorem rx_m25 : rx_al.getD 25 (.initialized "") ∈ rb_tbl := (rb_w5 126 rfl rfl)
theorem rx_m26 : rx_al.getD 26 (.initialized "") ∈ rb_tbl := (rb_w5 128 rfl rfl)
theorem rx_m27 : rx_al.getD 27 (.initialized "") ∈ rb_tbl := (rb_w5 93 rfl rfl)
theorem rx_m28 : rx_al.getD 28 (.initialized "") ∈ rb_tbl := (rb_w5 116 rfl rfl)
theorem rx_m29 : rx_al.getD 29 (.initialized "") ∈ rb_tbl := (rb_w5 117 rfl rfl)
theorem rx_m30 : rx_al.getD 30 (.initialized "") ∈ rb_tbl := (rb_w5 118 rfl rfl)
theorem rx_m31 : rx_al.getD 31 (.initialized "") ∈ rb_tbl := (rb_w5 119 rfl rfl)
theorem rx_m33 : rx_al.getD 33 (.initialized "") ∈ rb_tbl := (rb_w5 119 rfl rfl)
theorem rx_m34 : rx_al.getD 34 (.initialized "") ∈ rb_tbl := (rb_w5 120 rfl rfl)
theorem rx_m35 : rx_al.getD 35 (.initialized "") ∈ rb_tbl := (rb_w5 121 rfl rfl)
theorem rx_m36 : rx_al.getD 36 (.initialized "") ∈ rb_tbl := (rb_w5 122 rfl rfl)
theorem rx_m38 : rx_al.getD 38 (.initialized "") ∈ rb_tbl := (rb_w5 122 rfl rfl)
theorem rx_m39 : rx_al.getD 39 (.initialized "") ∈ rb_tbl := (rb_w5 123 rfl rfl)
theorem rx_m40 : rx_al.getD 40 (.initialized "") ∈ rb_tbl := (rb_w5 124 rfl rfl)
theorem rx_m41 : rx_al.getD 41 (.initialized "") ∈ rb_tbl := (rb_w5 125 rfl rfl)
theorem rx_m43 : rx_al.getD 43 (.initialized "") ∈ rb_tbl := (rb_w5 115 rfl rfl)
theorem rx_m44 : rx_al.getD 44 (.initialized "") ∈ rb_tbl := (rb_w5 76 rfl rfl)
theorem rx_m46 : rx_al.getD 46 (.initialized "") ∈ rb_tbl := (rb_w5 84 rfl rfl)
theorem rx_m47 : rx_al.getD 47 (.initialized "") ∈ rb_tbl := (rb_w5 85 rfl rfl)
theorem rx_m48 : rx_al.getD 48 (.initialized "") ∈ rb_tbl := (rb_w5 86 rfl rfl)
theorem rx_m49 : rx_al.getD 49 (.initialized "") ∈ rb_tbl := (rb_w5 88 rfl rfl)
theorem rx_m50 : rx_al.getD 50 (.initialized "") ∈ rb_tbl := (rb_w5 90 rfl rfl)
theorem rx_m51 : rx_al.getD 51 (.initialized "") ∈ rb_tbl := (rb_w5 92 rfl rfl)
theorem rx_m54 : rx_al.getD 54 (.initialized "") ∈ rb_tbl := (rb_w5 96 rfl rfl)
theorem rx_m55 : rx_al.getD 55 (.initialized "") ∈ rb_tbl := (rb_w5 95 rfl rfl)
theorem rx_m56 : rx_al.getD 56 (.initialized "") ∈ rb_tbl := (rb_w5 94 rfl rfl)
set_option maxRecDepth 100000 in
theorem rx_al_ok {args : Array Value} {s : State} {A : Nat → Prop} (hts : ∀ w ∈ rb_tbl, w.before args s = true) (hz : rx_Z A s) : ∀ w ∈ rx_al, w.before args s = true := (rb_cc2 (hts _ rx_m0) (rb_cc2 (hts _ rx_m1) (rb_cc2 (hts _ rx_m2) (rb_cc2 (hts _ rx_m3) (rb_cc2 (hts _ rx_m4) (rb_cc2 (hts _ rx_m5) (rb_cc2 (hts _ rx_m6) (rb_cc2 (hts _ rx_m7) (rb_cc2 (hts _ rx_m8) (rb_cc2 (hts _ rx_m9) (rb_cc2 (hts _ rx_m10) (rb_cc2 (hts _ rx_m11) (rb_cc2 (hts _ rx_m12) (rb_cc2 (hts _ rx_m13) (rb_cc2 (hts _ rx_m14) (rb_cc2 (hts _ rx_m15) (rb_cc2 (hts _ rx_m16) (rb_cc2 (hts _ rx_m17) (rb_cc2 (hts _ rx_m18) (rb_cc2 (hts _ rx_m19) (rb_cc2 hz.1.1.2.word (rb_cc2 (hts _ rx_m21) (rb_cc2 hz.1.2.2.word (rb_cc2 (hts _ rx_m23) (rb_cc2 (hts _ rx_m24) (rb_cc2 (hts _ rx_m25) (rb_cc2 (hts _ rx_m26) (rb_cc2 (hts _ rx_m27) (rb_cc2 (hts _ rx_m28) (rb_cc2 (hts _ rx_m29) (rb_cc2 (hts _ rx_m30) (rb_cc2 (hts _ rx_m31) (rb_cc2 (va_Nw.use (A := args) rfl hz.2.1) (rb_cc2 (hts _ rx_m33) (rb_cc2 (hts _ rx_m34) (rb_cc2 (hts _ rx_m35) (rb_cc2 (hts _ rx_m36) (rb_cc2 (va_Nw.use (A := args) rfl hz.2.2.1) (rb_cc2 (hts _ rx_m38) (rb_cc2 (hts _ rx_m39) (rb_cc2 (hts _ rx_m40) (rb_cc2 (hts _ rx_m41) (rb_cc2 (va_Nw.use (A := args) rfl hz.2.2.2.1) (rb_cc2 (hts _ rx_m43) (rb_cc2 (hts _ rx_m44) (rb_cc2 (va_Nw.use (A := args) rfl hz.2.2.2.2) (rb_cc2 (hts _ rx_m46) (rb_cc2 (hts _ rx_m47) (rb_cc2 (hts _ rx_m48) (rb_cc2 (hts _ rx_m49) (rb_cc2 (hts _ rx_m50) (rb_cc2 (hts _ rx_m51) (rb_cc2 (vx_isRefq hz.1.1.1) (rb_cc2 (vx_isRefq hz.1.2.1) (rb_cc2 (hts _ rx_m54) (rb_cc2 (hts _ rx_m55) (rb_cc2 (hts _ rx_m56) rb_nn)))))))))))))))))))))))))))))))))))))))))))))))))))))))))
theorem rx_hk : Cond.classLink "RentBoard" 169 "java/util/NoSuchElementException" ∈ rb_tbl := (rb_w5 75 rfl rfl)
theorem rx_hl : Cond.classLink "RentBoardLaw" 13 "java/util/NoSuchElementException" ∈ rb_tbl := (rb_w5 70 rfl rfl)
theorem rx_hi : Cond.initialized "java/util/NoSuchElementException" ∈ rb_tbl := (rb_w1 21 rfl rfl)
theorem rx_tbl_at {args a' : Array Value} {s U : State} (hW : s.WarmedH U.vm) (hts : ∀ w ∈ rb_tbl, w.before args s = true) : ∀ w ∈ rb_tbl, w.before a' U = true := fun w hw => word_at hW (good_of_word (List.mem_filter.mp hw).2) (hts w hw)
section RXM
variable {p : Program} {l : Launch} {e : Env} {R : Room} {s : State} {m : MethodId} {args : Array Value} {below : List Frame} {meth : Method} {c : Code} {H : Heap} {locs : List Loc} {cells slots : Nat} {Q : State → Prop}
variable {ls : Array Slot} {rest : List Value}
set_option maxHeartbeats 1000000 in
/-- a new one, on the stack -/
theorem rx_makeS {cc : ByteArray} {pc : Nat} (hexec : p.tables.exec = Jvm.exec) (hb : c.code = cc) (hl : l.stackTraces = false) {text : String} {is sa : Nat} {A : Nat → Prop}
    (hown : s.vm.findClass "RentBoard" = some m.cls) (hts : ∀ w ∈ rb_tbl, w.before args s = true) (hstr : vk_R "RentBoard" is text sa s) (hz : rx_Z A s) (hS : va_S A s.heap H locs) (hsize : ls.size = c.maxLocals)
    (d0 : decode cc pc = .ok (.new 169, 3)) (d3 : decode cc (pc + 3) = .ok (.dup, 1)) (d4 : decode cc (pc + 4) = .ok (.ldc is, 2)) (d6 : decode cc (pc + 6) = .ok (.invokespecial 173, 3))
    (hRframes : 5 < R.frames) (hRlocals : (rest.map fun v => v.category).sum + 82 ≤ R.locals) (hRcells : cells + 1 ≤ R.cells) (hRslots : slots + 6 ≤ R.slots)
    (kk : ∀ (q : Nat) (H1 : Heap) (ce : Cell), H.size ≤ H1.size → (∀ a : Nat, a < H.size → H1[a]? = H[a]?) → H1[q]? = some ce → ce.vm = .none → s.vm.findClass rx_E = some ce.cls → W p l e R s m args below meth c H1 locs (cells + 1) (slots + 6) Q (F0 m (pc + 9) ls (.ref q :: rest))) :
    W p l e R s m args below meth c H locs cells slots Q (F0 m pc ls rest) := by
  intro T hT X
  subst hT
  have htr : e.platform.stackTraces = false := (show e.platform.stackTraces = l.stackTraces by rw [X.admits.platform]).trans hl
  have Y := vx_rebase X (R' := { frames := R.frames, locals := R.locals, cells := 1, slots := 6 }) (Nat.le_refl _) (Nat.le_refl _) hRcells hRslots
  obtain ⟨s', hA'⟩ : ∃ z, z = (T.setVm s.vm).setFrames (.invoking m args :: below) := ⟨_, rfl⟩
  rw [← hA'] at Y
  have hvm : s'.vm = s.vm := by rw [hA']; rfl
  have hhp : s'.heap = T.heap := by rw [hA']; rfl
  have hW0 : s.WarmedH s'.vm := by rw [hvm]; exact State.WarmedH.refl s
  have hts' : ∀ w ∈ rb_tbl, w.before args s' = true := rx_tbl_at hW0 hts
  have hk' := hts' _ rx_hk
  have hini' := hts' _ rx_hi
  have h := rx_al_ok hts' (rx_Z.go hz hW0 hhp hS (fun _ h => h))
  have hown' : s'.vm.findClass "RentBoard" = some m.cls := by rw [hvm]; exact hown
  have hins : (Cond.instantiable rx_E 6).before args s' = true := h _ (by simp [rx_al, rx_at])
  obtain ⟨vm₁, cX, kX, hfX, hkX, -, -, X₁, st1⟩ := Y.newCold hexec (own := "RentBoard") (C := rx_E) (index := 169) (n := 6) hown' hk' hins hini'
    (g := F0 m pc ls rest) rfl (by rw [hb]; exact d0) (Nat.le_refl _) (Nat.le_refl _)
  generalize hT1 : (T.setVm vm₁).pushCell { cls := cX, slots := kX.instanceTypes.map defaultValue, vm := .none } = T1 at X₁ st1
  have hcat : (Value.ref T.heap.size).category = 1 := rfl
  have hcellA : T1.heap[T.heap.size]? = some (freshCell cX kX) := by rw [← hT1]; exact State.heap_pushCell_size _ _
  have d3' : decode c.code (pc + 3) = .ok (.dup, 1) := by rw [hb]; exact d3
  have d4' : decode c.code (pc + 4) = .ok (.ldc is, 2) := by rw [hb]; exact d4
  have hstr' : vk_R "RentBoard" is text sa s' := vk_R.warm hW0 hstr
  obtain ⟨V, ce, L, Z, hL, hlt, hcl9, hvm9, st⟩ := rx_ctorMadeS X₁ hexec htr (own := "RentBoard") (cls := rx_E) (sup := "java/lang/RuntimeException") (names := ["java/lang/Exception"]) (ic := 173) (ix := 13) (rx := prog_28_method_4_code) (by decide +kernel) (by decide +kernel) (by decide +kernel) (by decide +kernel) hown' (by decide +kernel) (by decide +kernel) (by decide +kernel) h (fun x hx => nomatch hx) hfX hkX hcellA (by rw [hhp]; exact Nat.le_refl _) (msg := .ref sa) rfl
    (g := { method := m, pc := pc + 6, locals := ls, stack := .ref sa :: .ref T.heap.size :: .ref T.heap.size :: rest, locked := none }) rfl hsize (rest := rest) rfl
    (by rw [hb]; exact d6) hRframes (by simp only [List.map_cons, List.sum_cons, hcat, List.length_cons, List.length_nil]; omega)
  have Z0 := Stand.forget (locs := []) Z (fun y hy => by rw [hL y hy, hhp]; exact Nat.le_refl _)
  obtain ⟨f1, f2⟩ := vx_frame Z0.same
  rw [hhp] at f1 f2
  have hcl : s.vm.findClass rx_E = some ce.cls := by rw [hcl9, ← hvm]; exact hfX
  have hh : (V.setCell T.heap.size ce).heap[T.heap.size]? = some ce := heapAt_setCell_self (s := V) ce hlt
  subst hA'
  have X5 := vx_back9 X Y Z0
  have X6 : Stand p l e R s m args below meth c (V.setCell T.heap.size ce) locs (cells + 1) (slots + 6) := { X5 with same := X5.same.mono (by omega) (by omega) }
  obtain ⟨t, a1, b1⟩ := kk T.heap.size (V.setCell T.heap.size ce).heap ce f1 (fun q hq => f2 q hq (fun z hz => nomatch hz)) hh hvm9 hcl _ rfl X6
  refine ⟨t, st1 _ ?_, b1⟩
  show Steps p.tables e below (T1.setTop { method := m, pc := pc + 3, locals := ls, stack := .ref T.heap.size :: rest, locked := none }) _
  jvm_step X₁.here [X₁.here.top, hexec, d3', Value.category]
  exact X₁.ldcString hexec (own := "RentBoard") (text := text) (index := is) (a := sa) hown' hstr'.1 hstr'.2
    (g := { method := m, pc := pc + 4, locals := ls, stack := .ref T.heap.size :: .ref T.heap.size :: rest, locked := none }) rfl d4' _ (st _ a1)

set_option maxHeartbeats 1000000 in
/-- a new one, on the stack -/
theorem rx_makeSW {cc : ByteArray} {pc : Nat} (hexec : p.tables.exec = Jvm.exec) (hb : c.code = cc) (hl : l.stackTraces = false) {text : String} {is sa : Nat} {A : Nat → Prop}
    (hown : s.vm.findClass "RentBoard" = some m.cls) (hts : ∀ w ∈ rb_tbl, w.before args s = true) (hstr : vk_R "RentBoard" is text sa s) (hz : rx_Z A s) (hS : va_S A s.heap H locs) (hsize : ls.size = c.maxLocals)
    (d0 : decode cc pc = .ok (.new 169, 3)) (d3 : decode cc (pc + 3) = .ok (.dup, 1)) (d4 : decode cc (pc + 4) = .ok (.ldc_w is, 3)) (d6 : decode cc (pc + 7) = .ok (.invokespecial 173, 3))
    (hRframes : 5 < R.frames) (hRlocals : (rest.map fun v => v.category).sum + 82 ≤ R.locals) (hRcells : cells + 1 ≤ R.cells) (hRslots : slots + 6 ≤ R.slots)
    (kk : ∀ (q : Nat) (H1 : Heap) (ce : Cell), H.size ≤ H1.size → (∀ a : Nat, a < H.size → H1[a]? = H[a]?) → H1[q]? = some ce → ce.vm = .none → s.vm.findClass rx_E = some ce.cls → W p l e R s m args below meth c H1 locs (cells + 1) (slots + 6) Q (F0 m (pc + 10) ls (.ref q :: rest))) :
    W p l e R s m args below meth c H locs cells slots Q (F0 m pc ls rest) := by
  intro T hT X
  subst hT
  have htr : e.platform.stackTraces = false := (show e.platform.stackTraces = l.stackTraces by rw [X.admits.platform]).trans hl
  have Y := vx_rebase X (R' := { frames := R.frames, locals := R.locals, cells := 1, slots := 6 }) (Nat.le_refl _) (Nat.le_refl _) hRcells hRslots
  obtain ⟨s', hA'⟩ : ∃ z, z = (T.setVm s.vm).setFrames (.invoking m args :: below) := ⟨_, rfl⟩
  rw [← hA'] at Y
  have hvm : s'.vm = s.vm := by rw [hA']; rfl
  have hhp : s'.heap = T.heap := by rw [hA']; rfl
  have hW0 : s.WarmedH s'.vm := by rw [hvm]; exact State.WarmedH.refl s
  have hts' : ∀ w ∈ rb_tbl, w.before args s' = true := rx_tbl_at hW0 hts
  have hk' := hts' _ rx_hk
  have hini' := hts' _ rx_hi
  have h := rx_al_ok hts' (rx_Z.go hz hW0 hhp hS (fun _ h => h))
  have hown' : s'.vm.findClass "RentBoard" = some m.cls := by rw [hvm]; exact hown
  have hins : (Cond.instantiable rx_E 6).before args s' = true := h _ (by simp [rx_al, rx_at])
  obtain ⟨vm₁, cX, kX, hfX, hkX, -, -, X₁, st1⟩ := Y.newCold hexec (own := "RentBoard") (C := rx_E) (index := 169) (n := 6) hown' hk' hins hini'
    (g := F0 m pc ls rest) rfl (by rw [hb]; exact d0) (Nat.le_refl _) (Nat.le_refl _)
  generalize hT1 : (T.setVm vm₁).pushCell { cls := cX, slots := kX.instanceTypes.map defaultValue, vm := .none } = T1 at X₁ st1
  have hcat : (Value.ref T.heap.size).category = 1 := rfl
  have hcellA : T1.heap[T.heap.size]? = some (freshCell cX kX) := by rw [← hT1]; exact State.heap_pushCell_size _ _
  have d3' : decode c.code (pc + 3) = .ok (.dup, 1) := by rw [hb]; exact d3
  have d4' : decode c.code (pc + 4) = .ok (.ldc_w is, 3) := by rw [hb]; exact d4
  have hstr' : vk_R "RentBoard" is text sa s' := vk_R.warm hW0 hstr
  obtain ⟨V, ce, L, Z, hL, hlt, hcl9, hvm9, st⟩ := rx_ctorMadeS X₁ hexec htr (own := "RentBoard") (cls := rx_E) (sup := "java/lang/RuntimeException") (names := ["java/lang/Exception"]) (ic := 173) (ix := 13) (rx := prog_28_method_4_code) (by decide +kernel) (by decide +kernel) (by decide +kernel) (by decide +kernel) hown' (by decide +kernel) (by decide +kernel) (by decide +kernel) h (fun x hx => nomatch hx) hfX hkX hcellA (by rw [hhp]; exact Nat.le_refl _) (msg := .ref sa) rfl
    (g := { method := m, pc := pc + 7, locals := ls, stack := .ref sa :: .ref T.heap.size :: .ref T.heap.size :: rest, locked := none }) rfl hsize (rest := rest) rfl
    (by rw [hb]; exact d6) hRframes (by simp only [List.map_cons, List.sum_cons, hcat, List.length_cons, List.length_nil]; omega)
  have Z0 := Stand.forget (locs := []) Z (fun y hy => by rw [hL y hy, hhp]; exact Nat.le_refl _)
  obtain ⟨f1, f2⟩ := vx_frame Z0.same
  rw [hhp] at f1 f2
  have hcl : s.vm.findClass rx_E = some ce.cls := by rw [hcl9, ← hvm]; exact hfX
  have hh : (V.setCell T.heap.size ce).heap[T.heap.size]? = some ce := heapAt_setCell_self (s := V) ce hlt
  subst hA'
  have X5 := vx_back9 X Y Z0
  have X6 : Stand p l e R s m args below meth c (V.setCell T.heap.size ce) locs (cells + 1) (slots + 6) := { X5 with same := X5.same.mono (by omega) (by omega) }
  obtain ⟨t, a1, b1⟩ := kk T.heap.size (V.setCell T.heap.size ce).heap ce f1 (fun q hq => f2 q hq (fun z hz => nomatch hz)) hh hvm9 hcl _ rfl X6
  refine ⟨t, st1 _ ?_, b1⟩
  show Steps p.tables e below (T1.setTop { method := m, pc := pc + 3, locals := ls, stack := .ref T.heap.size :: rest, locked := none }) _
  jvm_step X₁.here [X₁.here.top, hexec, d3', Value.category]
  exact X₁.ldcStringW hexec (own := "RentBoard") (text := text) (index := is) (a := sa) hown' hstr'.1 hstr'.2
    (g := { method := m, pc := pc + 4, locals := ls, stack := .ref T.heap.size :: .ref T.heap.size :: rest, locked := none }) rfl d4' _ (st _ a1)

end RXM
