/-! 'new int[n][k]', by the library's own step; the claim -/
theorem mu_outer (cA : ClassId) (N h0 : Nat) : Jvm.Free.Multi.outerC cA N h0 N = arrV cA N (fun j => va_rf (some (h0 + 1 + j))) := by
  obtain ⟨o1, o2, o3⟩ := Jvm.Free.Multi.outerC_facts cA N h0 N
  have o4 := fun j hj => Jvm.Free.Multi.outerC_slot cA N h0 N j hj
  obtain ⟨o5, o6⟩ := Jvm.Free.Multi.outerC_plain cA N h0 N
  generalize Jvm.Free.Multi.outerC cA N h0 N = x at o1 o2 o3 o4 o5 o6 ⊢
  obtain ⟨xc, xs, xm, xh, xv⟩ := x
  dsimp only at o1 o2 o3 o4 o5 o6
  subst o1
  subst o2
  subst o5
  subst o6
  have e : xs = Array.ofFn (n := N) fun j => va_rf (some (h0 + 1 + j.val)) := by
    apply Array.ext
    · rw [o3, Array.size_ofFn]
    · intro i h1 h2
      have h := o4 i (by omega)
      rw [if_pos (by omega)] at h
      rw [Array.getElem_ofFn]
      exact (Array.getElem?_eq_some_iff.mp h).2
  subst e
  rfl
theorem rm_multi : rm_Multi := by
  intro X g B q o nL d mc ms cs ss pc idx Q cc L lv st n k N K C hdg hcl hn hk hN hK hN1 hK1 hcs hss kk
  obtain ⟨p, l, e, R, s, m, args, below, meth, c⟩ := X
  obtain ⟨hx, hb, hml, hown, hts, ⟨r1, r2, r3, r4⟩, hC, hq⟩ := C
  subst hN
  subst hK
  intro H locs ls hz hP hS hl T hT XX
  have hAA : (Cond.arrayOver (.array .int)).before args s = true := hC.2.2.2.2.2
  obtain ⟨vm₁, cA, comp, hW1, hfA, hfC, hO, hI, X1, step⟩ := XX.multianewarray2F hx (own := rb_on o) (index := idx) (ty := .int) hown (hts _ hcl) hAA (hts _ (show Cond.arrayClass .int ∈ rb_tbl from (rb_w1 112 rfl rfl))) (g := F0 m pc ls (.int k :: .int n :: st)) rfl (by show decode c.code pc = _; rw [hb]; exact hdg) (rest := st) rfl hn hk (by omega) (by show k.toNatClampNeg * 4 ≤ _; omega) (by omega) rfl rfl (by omega) (by omega)
  obtain ⟨f1, f2, f3, f4⟩ := Jvm.Free.Multi.fill_facts (T.setVm vm₁) cA comp n.toNatClampNeg k.toNatClampNeg (defaultValue .int) n.toNatClampNeg
  have fo := fun (a : Addr) (ha : a < T.heap.size) => Jvm.Free.Multi.fill_old (T.setVm vm₁) cA comp n.toNatClampNeg k.toNatClampNeg (defaultValue .int) (a := a) ha n.toNatClampNeg
  have fi := fun (j : Nat) (hj : j < n.toNatClampNeg) => Jvm.Free.Multi.fill_inner (T.setVm vm₁) cA comp n.toNatClampNeg k.toNatClampNeg (defaultValue .int) n.toNatClampNeg j hj
  have hTz : T.heap.size = q + L.length := by rw [hT, hz]
  have hcA : cA = rb_tc g 16 := Option.some.inj (hfA.symm.trans (hC.1.2 6 (rb_tc g 16, .array .int) rfl).2)
  have hco : comp = rb_tc g 10 := Option.some.inj (hfC.symm.trans (hC.1.2 0 (rb_tc g 10, .int) rfl).2)
  subst hcA
  subst hco
  generalize Jvm.Free.Multi.fill (T.setVm vm₁) (rb_tc g 16) (rb_tc g 10) n.toNatClampNeg k.toNatClampNeg (defaultValue .int) n.toNatClampNeg = U at X1 step f1 f2 fo fi
  have f1 : U.heap.size = T.heap.size + 1 + n.toNatClampNeg := f1
  have f2 : U.heap[T.heap.size]? = some (Jvm.Free.Multi.outerC (rb_tc g 16) n.toNatClampNeg T.heap.size n.toNatClampNeg) := f2
  have fo : ∀ a : Nat, a < q + L.length → U.heap[a]? = H[a]? := fun a ha => (fo a (by rw [hTz]; exact ha)).trans (by show T.heap[a]? = _; rw [hT])
  have fi : ∀ j, j < n.toNatClampNeg → U.heap[T.heap.size + 1 + j]? = some (Jvm.Free.Multi.innerC (rb_tc g 10) k.toNatClampNeg (defaultValue .int)) := fi
  rw [mu_outer] at f2
  rw [hTz] at f1 f2 fi step
  have hlen : (rm_grid g (q + L.length) n.toNatClampNeg k.toNatClampNeg).length = 1 + n.toNatClampNeg := by
    unfold rm_grid
    rw [List.length_cons, List.length_replicate]
    omega
  have hP2 : rm_P g U.heap (q + L.length) (rm_grid g (q + L.length) n.toNatClampNeg k.toNatClampNeg) := by
    refine rm_P_of fun j x hj => ?_
    have hjl := (List.getElem?_eq_some_iff.mp hj).1
    rw [hlen] at hjl
    cases j with
    | zero =>
      cases hj
      exact f2
    | succ j =>
      unfold rm_grid at hj
      rw [List.getElem?_cons_succ, List.getElem?_replicate, if_pos (by omega)] at hj
      cases hj
      show U.heap[q + L.length + (j + 1)]? = some (arrV (rb_tc g 10) k.toNatClampNeg (fun _ => .int 0))
      have h := fi j (by omega)
      rw [show q + L.length + (j + 1) = q + L.length + 1 + j by omega, h]
      exact congrArg some (arrV_new _ _ _)
  obtain ⟨t, a1, b1⟩ := kk U.heap locs ls (by rw [f1, List.length_append, hlen]; omega) (rm_P_app (rm_P_kept hP fo) hP2) ⟨Nat.le_trans hS.1 (by rw [f1]; omega), fun x h1 h2 => (fo x (by have := hS.1; omega)).trans (hS.2.1 x h1 h2), hS.2.2⟩ hl U rfl X1
  exact ⟨t, step t a1, b1⟩
theorem whole_start {p : Program} {e : Env} {s : State} {m : MethodId} {below : List Frame} {meth : Method} {c : Code} (l : Launch) (hflags : l.flags = flags0) {b L : Nat} {xs : Nat → Int32} (hL : L ≤ 2560) (C0 : lw_At p s m meth c b L xs) : W p l e room_1 s m #[Value.ref b] below meth c s.heap [] 0 0 (lw_Z below #[Value.ref b] s) (entryFrame m ([Value.ref b] : List Value).toArray 8) := st_whole rm_multi l hflags hL C0
set_option maxHeartbeats 4000000 in
theorem lw_walk (l : Launch) (hflags : l.flags = flags0) (b : Addr) (xs : List Int32) : MetFree l x (headSpec (Jvm.Cond.code x code maxLocals ret :: tables_1) room_1) (lw_P b xs) (fun _ _ _ _ _ => True) lw_Q := by
  refine MetFree.of_bodyS (code := code) (maxLocals := maxLocals) (ret := ret) (by decide) ?_ ?_
  · intro args s m h hn
    obtain ⟨meth, c, h1, h2, h3, h4, h5, h6, -, -⟩ := Cond.code_spec hn (atoms_spec (ws := Jvm.Cond.code x code maxLocals ret :: tables_1) h _ List.mem_cons_self)
    exact ⟨meth, c, h1, h2, h3, h4, h5, h6⟩
  · intro p e s m args below meth c s₁ B hml0 hP _
    obtain ⟨rfl, hx, hbd, hgv⟩ := hP
    obtain ⟨scr, harrAt, hlist, hof, hsmall⟩ := hx
    obtain ⟨hcb, hkn, -, -⟩ := State.arrayAt?_spec harrAt
    have hown : s.vm.findClass R_law = some m.cls := findClass_of_methodNamed B.named
    have hts0 : ∀ c ∈ (Jvm.Cond.code x code maxLocals ret :: tables_1), c.before #[Value.ref b] s = true := atoms_spec (ws := Jvm.Cond.code x code maxLocals ret :: tables_1) B.pre
    have hts : ∀ w ∈ lw_tbl, w.before #[Value.ref b] s = true := k2_hts_sels lw_privs (fun w hw => hts0 w (List.mem_cons_of_mem _ hw)) lw_privs_ok
    have hml : c.maxLocals = 8 := B.maxLocals_eq (hts0 _ List.mem_cons_self)
    have X₀ : Stand p l e room_1 s m #[Value.ref b] below meth c s₁ [] 0 0 := Stand.of_body B
    have hh0 : s₁.heap = s.heap := by rw [B.state]; rfl
    have hsz : scr.slots.size = xs.length := by rw [← Array.length_toList, hlist, List.length_map]
    have hval : ∀ j : Nat, j < xs.length → scr.slots[j]? = some (.int (xs.getD j 0)) := fun j hj => by
      rw [← Array.getElem?_toList, hlist]
      simp [hj]
    have hbl : b < s.heap.size := (Array.getElem?_eq_some_iff.mp hcb).1
    have hX : va_X b xs.length (fun j => xs.getD j 0) s s.heap := ⟨scr, hcb, hof, hkn, hsz, hval⟩
    have K : W p l e room_1 s m #[Value.ref b] below meth c s₁.heap [] 0 0 (lw_Z below #[Value.ref b] s) (entryFrame m ([Value.ref b] : List Value).toArray 8) := by
      rw [hh0]
      exact whole_start l hflags hbd ⟨B.exec, B.bytes, B.returns, hml, hown, hts, hX, hbl, B.notSynchronized, hgv⟩
    obtain ⟨t, a1, o, b1, b2, b3⟩ := K s₁ rfl X₀
    exact ⟨t, o, a1, b1, b2, b3⟩
theorem lw_pre_spec {args : Array Value} {s : State} (h : (Jvm.Cond.and given_1 narrow_1).before args s = true) (hr : rest_1_c.before args s = true) : ∃ (b : Addr) (xs : List Int32), lw_P b xs args s := by
  have hs := flat_of_before _ h
  have hq := flat_of_before _ hr
  have hc : (Cond.count 1).before args s = true := hs _ (by decide +kernel)
  have harr : (Cond.arrayOf (.arg 0) .int).before args s = true := hs _ (by decide +kernel)
  have hle : (Cond.le (.length (.arg 0)) (.int 2560)).before args s = true := hs _ (by decide +kernel)
  have hlen : (Cond.isInt (.length (.arg 0))).before args s = true := hq _ (by decide +kernel)
  have hall : (Cond.all (.arg 0) (.isInt (.elem (.arg 0) (.index 0)))).before args s = true := hq _ (by decide +kernel)
  obtain ⟨b, xs, hb, hx⟩ := State.ints_of_pre rfl harr hlen hall
  have hsm : xs.length < 2 ^ 31 := hx.choose_spec.2.2.2
  have hev : (Term.length (.arg 0)).eval args s none [] s = some (.int xs.length.toInt32) := hx.length_eval hb
  have hv := Cond.le_ints hev (show (Term.int 2560).eval args s none [] s = some (.int 2560) from rfl)
  have hd : xs.length.toInt32 ≤ 2560 := by
    simpa [Cond.before, Cond.holds, hv] using hle
  have hN : xs.length ≤ 2560 := (Int32.ofNat_le_ofNat hsm (by decide)).mp (show Int32.ofNat xs.length ≤ Int32.ofNat 2560 from hd)
  exact ⟨b, xs, Cond.one_arg hc (show args[0]? = some (.ref b) from hb), hx, hN, h⟩
theorem lw_comes (l : Launch) (hflags : l.flags = flags0) : Comes l x (Jvm.Cond.code x code maxLocals ret :: tables_1) room_1 (fun tb e args s => Calls_1 tb e args s ∧ rest_1 tb e args s ∧ Pre_1 tb e args s)
    (fun _ _ args s o t => lw_Q args s o t) := by
  intro p e ha hc hk s m args below hf hfit hheap happ hpre
  obtain ⟨b, xs, hP⟩ := lw_pre_spec hpre.2.2 hpre.2.1
  obtain ⟨k, o, h1, h2, h3, hQ⟩ := lw_walk l hflags b xs p e ha hc hk s m args below hf ((Spec.applies_iff_loose hf).mp happ).1 hP trivial
  exact ⟨k, o, h1, h2, h3, hQ⟩
theorem lw_frame {s t : State} {o : Outcome} {args : Array Value} (h : Framed s o t [] 601024 7293034) :
    Framed s o t (fieldLocs frame_1_writes args s ++ arrayLocs frame_1_arrays args s ++ staticLocs frame_1_statics s) 601024 7293034 := h
theorem lw_limb (L : Cond) (hL : ∀ (args : Array Value) (s t : State), L.after args s (.returned (some (.int 1))) t = true) :
    ArmFor flags0 classFile x code maxLocals ret World_1 tables_1 room_1 Calls_1 rest_1 Pre_1
      (fun tb e a s o t => postC L tb e a s o t ∧ Framed s o t (fieldLocs frame_1_writes a s ++ arrayLocs frame_1_arrays a s ++ staticLocs frame_1_statics s) 601024 7293034) := by
  intro l hflags _ _ p e ha hc hk s m args below hf hfit hheap happ hpre
  obtain ⟨k, o, h1, h2, h3, rfl, hF⟩ := lw_comes l hflags p e ha hc hk s m args below hf hfit hheap happ hpre
  exact ⟨k, _, h1, h2, h3, hL args s _, lw_frame hF⟩
theorem i_vc : Claimed_1_1 ∧ Claimed_1_2 := ⟨lw_limb limb_1_1 (fun args s t => by simp [limb_1_1, Cond.after, Cond.holds, Cond.value]), lw_limb limb_1_2 (fun args s t => Cond.after_iff.mpr (by
  first | (rw [show limb_1_2 = Cond.eq .result (.int 1) from rfl, Cond.eq_ints (x := 1) (y := 1) rfl rfl]; simp; done) | (simp [limb_1_2, Cond.value, Term.eval]; done)))⟩

