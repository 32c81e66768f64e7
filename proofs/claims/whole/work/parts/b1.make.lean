/-! constructors: their contracts, their calls; arrays of objects -/
def rm_rm (d mc ms : Nat) : Room := { frames := d, cells := mc, slots := ms, locals := 40 * d }
def rm_Pc (g : rb_G) (B q ci : Nat) (fs As : List Value) : Array Value → State → Prop := va_Pc (.ref q :: As) (fun U => U.heap.size = q + 1 ∧ rm_P g U.heap q [.inr (ci, fs)] ∧ rm_C g B U)
theorem rm_blind (g : rb_G) (B q ci : Nat) (fs As : List Value) : FrameBlind (rm_Pc g B q ci fs As) := fun a U gf mk h => ⟨h.1, h.2.1, h.2.2.1, h.2.2.2.calling gf mk a⟩
def rm_Qm (g : rb_G) (q : Nat) (L : List va_E) : Array Value → State → Outcome → State → Prop := fun _ st o t => (o = .returned none ∧ t.heap.size = q + L.length ∧ rm_P g t.heap q L) ∧ va_F (rm_Nw q) st t
/-- what a constructor makes of its object: the cells LC q from q on -/
def rm_Mk (l : Launch) (g : rb_G) (B : Nat) (y : MethodName) (cc : ByteArray) (nL d ci : Nat) (fs As : List Value) (LC : Nat → List va_E) (mc ms : Nat) : Prop := ∀ q, B ≤ q → Met l y (.code y cc nL none :: rb_tbl) (rm_rm d mc ms) (rm_Pc g B q ci fs As) (rm_Qm g q (LC q)) mc ms (rm_Nw q)
def rm_R (X : rb_X) (g : rb_G) (q : Nat) (L : List va_E) (mc ms : Nat) : State → Prop := match X with
  | (_, _, _, _, s, _, args, below, _, _) => MQ below (rm_Qm g q L) args s mc ms (rm_Nw q)
theorem rm_Mk_of {l : Launch} {g : rb_G} {B : Nat} {y : MethodName} {cc : ByteArray} {nL d ci o : Nat} {fs As : List Value} {LC : Nat → List va_E} {mc ms : Nat} (hy : plainName y.cls = true) (hy1 : y.name = "<init>") (ho : rb_on o = y.cls) (hfit : ∀ q, (lg_sl (Value.ref q :: As)).length ≤ nL)
    (body : ∀ (X : rb_X) (q : Nat), X.2.1 = l → rm_Cx X g B q o cc nL d mc ms → rm_in X → rm_Ok X g q nL 0 0 (rm_R X g q (LC q) mc ms) [.inr (ci, fs)] 0 (lv_args 0 (.ref q :: As)) []) : rm_Mk l g B y cc nL d ci fs As LC mc ms := by
  intro q hq
  refine Met.ofW (cc := cc) (maxL := nL) (ret := none) hy rfl ?_
  intro p e s m args below meth c s₁ B' hml hv
  obtain ⟨rfl, hz, hP, hC⟩ := hv
  have hts := atoms_spec (ws := .code y cc nL none :: rb_tbl) B'.pre
  have hown : s.vm.findClass y.cls = some m.cls := findClass_of_methodNamed B'.named
  have hl := lv_entry (.ref q :: As) (n := nL) (hfit q)
  rw [lg_entry_eq]
  exact body (p, l, e, rm_rm d mc ms, s, m, (.ref q :: As).toArray, below, meth, c) q rfl ⟨B'.exec, B'.bytes, hml, by rw [ho]; exact hown, fun w hw => hts w (List.mem_cons_of_mem _ hw), ⟨Nat.le_refl _, Nat.le_refl _, Nat.le_refl _, Nat.le_refl _⟩, hC, hq⟩ ⟨(name_of_methodNamed B'.named B'.method).1.trans hy1, B'.returns, B'.notSynchronized⟩ s.heap [] _ hz hP va_S.rf hl
section RM2
variable {X : rb_X} {g : rb_G} {B q o nL d mc ms cs ss pc idx : Nat} {Q : State → Prop} {cc : ByteArray} {L : List va_E} {lv : List (Nat × Value)} {st : List Value}
theorem rm_ret (C : rm_Cx X g B q o cc nL d mc ms) (hi : rm_in X) (hcs : cs ≤ mc) (hss : ss ≤ ms) (hdg : decode cc pc = .ok (.return_, 1)) : rm_Ok X g q nL cs ss (rm_R X g q L mc ms) L pc lv [] := by
  obtain ⟨p, l, e, R, s, m, args, below, meth, c⟩ := X
  obtain ⟨hx, hb, -⟩ := C
  obtain ⟨-, hr, hlk⟩ := hi
  intro H locs ls hz hP hS hl
  exact W.widen hcs hss (W.vret hx hb hr (fun t ht hW => ⟨⟨rfl, by rw [ht]; exact hz, by rw [ht]; exact hP⟩, hS.F ht⟩) hS.2.2 hdg hlk)
/-- a constructor's call, its object the last that was made -/
theorem rm_call (C : rm_Cx X g B q o cc nL d mc ms) {y : MethodName} {cc' : ByteArray} {nL' d' ci : Nat} {fs As : List Value} {LC : Nat → List va_E} {mc' ms' : Nat} (hM : rm_Mk X.2.1 g B y cc' nL' d' ci fs As LC mc' ms') (hy1 : y.name = "<init>") (hdg : decode cc pc = .ok (.invokespecial idx, 3))
    (hlk : Cond.methodLink (rb_on o) idx y ∈ rb_tbl ∨ ∃ host, Cond.methodLinkNest (rb_on o) idx y host ∈ lw_tbl) (w1 : Cond.code y cc' nL' none ∈ rb_tbl) (w2 : Cond.initialized y.cls ∈ rb_tbl) (w3 : Cond.instanceMethod y ∈ rb_tbl) (hy : y.cls ≠ "java/lang/invoke/MethodHandle" ∧ y.cls ≠ "java/lang/invoke/VarHandle" ∧ (parseMethodDescriptor y.desc).map (fun d => d.parameters.length) = some As.length)
    (hd : d' < d) (hnl : nL' ≤ 21) (hct : rb_ct st ≤ 8) (hcs : cs + mc' ≤ mc) (hss : ss + ms' ≤ ms) (k : rm_Ok X g q nL (cs + mc') (ss + ms') Q (L ++ LC (q + L.length)) (pc + 3) lv st) : rm_Ok X g q nL cs ss Q (L ++ [.inr (ci, fs)]) pc lv (As.reverse ++ .ref (q + L.length) :: st) := by
  obtain ⟨p, l, e, R, s, m, args, below, meth, c⟩ := X
  obtain ⟨hx, hb, hml, hown, hts, ⟨r1, r2, r3, r4⟩, hC, hq⟩ := C
  have hG : GoodIn rb_tbl (Cond.code y cc' nL' none :: rb_tbl) := by
    intro w hw
    have hm : w ∈ rb_tbl := by
      rcases List.mem_cons.mp hw with e | e
      · subst e; exact w1
      · exact e
    exact ⟨hm, good_of_word (List.mem_filter.mp hm).2⟩
  have hroom : (rm_rm d' mc' ms').frames + 1 ≤ R.frames ∧ 8 + (nL' + 11) + (rm_rm d' mc' ms').locals ≤ R.locals := by
    refine ⟨?_, ?_⟩
    · show d' + 1 ≤ R.frames
      omega
    · show 8 + (_ + 11) + 40 * d' ≤ R.locals
      omega
  intro H locs ls hz hP hS hl
  have hz' : H.size = q + L.length + 1 := by rw [hz, List.length_append]; rfl
  have hpre : PreS s H (rm_Pc g B (q + L.length) ci fs As) (.ref (q + L.length) :: As) := ⟨rm_blind g B _ ci fs As, fun U hU hW => ⟨rfl, by rw [hU]; exact hz', by rw [hU]; exact rm_P_one (rm_P_at hP (by rw [List.getElem?_append_right (Nat.le_refl _), Nat.sub_self]; rfl)), hC.go hq hW hU hS⟩⟩
  have hct' : (st.map fun v => v.category).sum ≤ 8 := hct
  have hrun : va_Run p l e R s m args below meth c H locs cs ss mc' ms' (F0 m pc ls (As.reverse ++ .ref (q + L.length) :: st)) st (rm_Qm g (q + L.length) (LC (q + L.length)) (Value.ref (q + L.length) :: As).toArray) (rm_Nw (q + L.length)) := by
    rcases hlk with h | ⟨host, h⟩
    · exact va_runI (Ts := rb_tbl) (own := rb_on o) ⟨hx, hb, hml, hown, hts⟩ (hM _ (by omega)) ⟨callB_of As.length hts hG rfl rfl rfl (hts _ w2) (hts _ h) hy hroom, hy1, hts _ w3⟩ hpre rfl rfl hl.1 rfl (lv_room hct') hdg ⟨by omega, by omega⟩
    · exact va_runIN (Ts := rb_tbl) (own := rb_on o) (host := host) ⟨hx, hb, hml, hown, hts⟩ (hM _ (by omega)) ⟨va_cnB As.length hts hG rfl rfl rfl (hC.2.1 _ _ _ _ h) (hts _ w2) hy hroom, hy1, hts _ w3⟩ hpre rfl rfl hl.1 rfl (lv_room hct') hdg ⟨by omega, by omega⟩
  intro T hT XX
  obtain ⟨v, st₀, t, T', Lx, h0, X', hL, e1, e2, ⟨⟨hv, hz1, hp⟩, hzz, hk⟩, stp⟩ := hrun T hT XX
  cases hv
  rw [h0] at hzz hk
  obtain ⟨t2, a1, b1⟩ := k T'.heap (locs ++ Lx) ls (by rw [e1, hz1, List.length_append]; omega)
    (rm_P_app (rm_P_kept (rm_P_left hP) (fun a ha => by rw [e1]; exact hk a (by omega) (fun z => by have z' : q + L.length ≤ a := z; omega))) (by rw [e1]; exact hp))
    ⟨Nat.le_trans hS.1 (by rw [e1]; exact hzz), fun a h1 h2 => by rw [e1, hk a (Nat.lt_of_lt_of_le h1 hS.1) (fun z => h2 (by have z' : q + L.length ≤ a := z; show q ≤ a; omega))]; exact hS.2.1 a h1 h2, fun z hz => by
      rcases List.mem_append.mp hz with h | h
      · exact hS.2.2 z h
      · have h3 : q + L.length ≤ z.base := hL z h
        show q ≤ z.base
        omega⟩ hl T' rfl X'
  exact ⟨t2, stp t2 a1, b1⟩
def rm_none (g : rb_G) (N : Nat) : va_E := .inl (rb_tc g 15, N, .inr (.inr (.inr (.inr (fun _ => none)))))
def rm_refs (g : rb_G) (N : Nat) (f : Nat → Option Nat) : va_E := .inl (rb_tc g 15, N, .inr (.inr (.inr (.inr f))))
theorem rm_anew (C : rm_Cx X g B q o cc nL d mc ms) {n : Int32} {N : Nat} (hdg : decode cc pc = .ok (.anewarray idx, 3)) (hcl : Cond.classLink (rb_on o) idx "RentBoard$State" ∈ rb_tbl) (hn : ¬ n < 0) (hN : n.toNatClampNeg = N) (hby : N * 4 ≤ 536870912) (hcs : cs + 1 ≤ mc) (hss : ss + N ≤ ms)
    (k : rm_Ok X g q nL (cs + 1) (ss + N) Q (L ++ [rm_refs g N (fun _ => none)]) (pc + 3) lv (.ref (q + L.length) :: st)) : rm_Ok X g q nL cs ss Q L pc lv (.int n :: st) := by
  obtain ⟨p, l, e, R, s, m, args, below, meth, c⟩ := X
  obtain ⟨hx, hb, hml, hown, hts, ⟨r1, r2, r3, r4⟩, hC, hq⟩ := C
  subst hN
  intro H locs ls hz hP hS hl
  refine W.anew hx hb hown (hts _ hcl) (va_AO.use hC.2.2.2.2.1) rfl hdg rfl hn hby (by omega) (by omega) fun cA kA comp f1 f2 f3 f4 => ?_
  have hra := (hC.1.2 5 (rb_tc g 15, .object "RentBoard$State") rfl).2
  obtain ⟨kA', comp', -, -, -, h5⟩ := hra
  have hcA : cA = rb_tc g 15 := Option.some.inj (f1.symm.trans h5)
  subst hcA
  rw [hz]
  have o1 : ∀ a : Nat, a < q + L.length → (H.push ({ cls := rb_tc g 15, slots := Array.replicate n.toNatClampNeg .null, vm := .none } : Cell))[a]? = H[a]? := fun a ha => by rw [Array.getElem?_push, if_neg (by omega)]
  refine k _ locs ls (by rw [Array.size_push, hz, List.length_append]; rfl) (rm_P_app (rm_P_kept hP o1) (rm_P_one ?_)) ⟨Nat.le_trans hS.1 (by rw [Array.size_push]; omega), fun x h1 h2 => (o1 x (by have := hS.1; omega)).trans (hS.2.1 x h1 h2), hS.2.2⟩ hl
  show (H.push _)[q + L.length]? = some (vp_cell _ _)
  rw [← hz, Array.getElem?_push_size, vp_cell_q]
  exact congrArg some (arrV_new _ _ _)
theorem rm_aast (C : rm_Cx X g B q o cc nL d mc ms) {a j N : Nat} {f : Nat → Option Nat} {i : Int32} {fs : List Value} (hdg : decode cc pc = .ok (.aastore, 1)) (ha : L[a]? = some (rm_refs g N f)) (hj : L[j]? = some (.inr (5, fs))) (hin : vp_in i N)
    (k : rm_Ok X g q nL cs ss Q (L.set a (rm_refs g N (va_up f i.toNatClampNeg (some (q + j))))) (pc + 1) lv st) : rm_Ok X g q nL cs ss Q L pc lv (.ref (q + j) :: .int i :: .ref (q + a) :: st) := by
  obtain ⟨p, l, e, R, s, m, args, below, meth, c⟩ := X
  obtain ⟨hx, hb, hml, hown, hts, hR, hC, hq⟩ := C
  intro H locs ls hz hP hS hl
  refine rm_astq0 (H0 := s.heap) (A := rm_Nw q) (D := rb_D g) (cl := rb_cl) (tys := rb_tys g) (ws := rm_ws q L) hx hb hC.1 hP (rm_D (Nat.le_refl q) L) hS a 5 j 5 (rm_ws_at ha) (r := rb_cq 5) rfl (rm_ws_at hj) (rb_cl_at 5 (by decide)) hin hdg (fun H1 locs1 hz1 hP1 hD1 hS1 => ?_)
  rw [rm_ws_set] at hP1
  exact k H1 locs1 ls (by rw [hz1, hz, List.length_set]) hP1 hS1 hl
end RM2
