/-! what a constructor makes: cells one behind the other, from an address on -/
def rm_ws (q : Nat) (L : List va_E) : va_W := L.mapIdx fun j e => (q + j, e)
theorem rm_ws_at {q : Nat} {L : List va_E} {j : Nat} {e : va_E} (h : L[j]? = some e) : (rm_ws q L)[j]? = some (q + j, e) := by
  unfold rm_ws
  rw [List.getElem?_mapIdx, h]
  rfl
theorem rm_ws_inv {q : Nat} {L : List va_E} {j : Nat} {x : Nat × va_E} (h : (rm_ws q L)[j]? = some x) : ∃ e, L[j]? = some e ∧ x = (q + j, e) := by
  unfold rm_ws at h
  rw [List.getElem?_mapIdx] at h
  cases e : L[j]? with
  | none => rw [e] at h; cases h
  | some v => rw [e] at h; exact ⟨v, rfl, (Option.some.inj h).symm⟩
theorem rm_ws_set (q : Nat) (L : List va_E) (j : Nat) (e : va_E) : (rm_ws q L).set j (q + j, e) = rm_ws q (L.set j e) := by
  apply List.ext_getElem?
  intro i
  unfold rm_ws
  rw [List.getElem?_mapIdx, List.getElem?_set, List.getElem?_set, List.getElem?_mapIdx, List.length_mapIdx]
  by_cases h : j = i
  · subst h
    by_cases h2 : j < L.length <;> simp [h2]
  · simp [h]
def rm_P (g : rb_G) (H : Heap) (q : Nat) (L : List va_E) : Prop := va_P (rb_D g) rb_cl (rm_ws q L) H
theorem rm_P_at {g : rb_G} {H : Heap} {q : Nat} {L : List va_E} (h : rm_P g H q L) {j : Nat} {e : va_E} (he : L[j]? = some e) : va_at (rb_D g) rb_cl (q + j, e) H := h j _ (rm_ws_at he)
theorem rm_P_of {g : rb_G} {H : Heap} {q : Nat} {L : List va_E} (h : ∀ j e, L[j]? = some e → va_at (rb_D g) rb_cl (q + j, e) H) : rm_P g H q L := by
  intro k x hx
  obtain ⟨e, he, rfl⟩ := rm_ws_inv hx
  exact h k e he
theorem rm_P_app {g : rb_G} {H : Heap} {q : Nat} {L M : List va_E} (h1 : rm_P g H q L) (h2 : rm_P g H (q + L.length) M) : rm_P g H q (L ++ M) := by
  refine rm_P_of fun j e he => ?_
  by_cases hj : j < L.length
  · rw [List.getElem?_append_left hj] at he
    exact rm_P_at h1 he
  · rw [List.getElem?_append_right (by omega)] at he
    have h3 := rm_P_at h2 he
    rw [show q + L.length + (j - L.length) = q + j by omega] at h3
    exact h3
theorem rm_P_left {g : rb_G} {H : Heap} {q : Nat} {L M : List va_E} (h : rm_P g H q (L ++ M)) : rm_P g H q L := rm_P_of fun j e he => rm_P_at h (by rw [List.getElem?_append_left (List.getElem?_eq_some_iff.mp he).1]; exact he)
theorem rm_P_one {g : rb_G} {H : Heap} {q : Nat} {e : va_E} (h : va_at (rb_D g) rb_cl (q, e) H) : rm_P g H q [e] := by
  refine rm_P_of fun j x hx => ?_
  have hj : j < 1 := (List.getElem?_eq_some_iff.mp hx).1
  rw [show j = 0 by omega] at hx ⊢
  cases hx
  exact h
theorem rm_P_kept {g : rb_G} {H H1 : Heap} {q : Nat} {L : List va_E} (h : rm_P g H q L) (hk : ∀ a : Nat, a < q + L.length → H1[a]? = H[a]?) : rm_P g H1 q L := va_P.kept h (fun k x hx => hk x.1 (by
  obtain ⟨e, he, rfl⟩ := rm_ws_inv hx
  have := (List.getElem?_eq_some_iff.mp he).1
  show q + k < _
  omega))
def rm_Nw (x : Nat) : Nat → Prop := fun a => x ≤ a
theorem rm_D {q B : Nat} (h : B ≤ q) (L : List va_E) : va_D (rm_Nw B) (rm_ws q L) := by
  refine ⟨fun i j x y hx hy e => ?_, fun k x hx => ?_⟩
  · obtain ⟨e1, -, rfl⟩ := rm_ws_inv hx
    obtain ⟨e2, -, rfl⟩ := rm_ws_inv hy
    have e : q + i = q + j := e
    omega
  · obtain ⟨e1, -, rfl⟩ := rm_ws_inv hx
    show B ≤ q + k
    omega
/-- what the tables and the old cells say, seen from U; B: from there on the cells are new -/
def rm_C (g : rb_G) (B : Nat) (U : State) : Prop := va_K (rb_D g) rb_cl (rb_tys g) U ∧ rb_Nx U ∧ rb_StA g (rm_Nw B) U U.heap ∧ rb_Rk g U ∧ va_AO "RentBoard$State" U ∧ rm_AA U
theorem rm_C.go {g : rb_G} {B q : Nat} {s U : State} {H : Heap} {locs : List Loc} (h : rm_C g B s) (hq : B ≤ q) (hW : s.WarmedH U.vm) (hU : U.heap = H) (hS : va_S (rm_Nw q) s.heap H locs) : rm_C g B U :=
  ⟨va_K.moved hW.alike h.1, fun o i y host hm => va_Nw.warmM hW (h.2.1 o i y host hm), h.2.2.1.go hW.alike (by rw [hU]; exact hS.1) (fun a h1 h2 => by rw [hU]; exact hS.2.1 a h1 (fun z => h2 (Nat.le_trans hq z))), fun i hi => vk_R.warm hW (h.2.2.2.1 i hi), h.2.2.2.2.1.moved hW.alike, h.2.2.2.2.2.moved hW.alike⟩
theorem rm_C.calling {g : rb_G} {B : Nat} {U : State} (h : rm_C g B U) (gf : JFrame) (mk : MethodId) (a : Array Value) : rm_C g B (U.calling gf mk a) :=
  ⟨va_K.moved (u := U) (U := U.calling gf mk a) (Vm.Alike.refl U.vm) h.1, fun o i y host hm => va_Nw.same rfl (u := U) (U := U.calling gf mk a) rfl (h.2.1 o i y host hm), rb_StA.go (u := U) (U := U.calling gf mk a) (H := U.heap) (H1 := (U.calling gf mk a).heap) h.2.2.1 (Vm.Alike.refl U.vm) (Nat.le_refl _) (fun _ _ _ => rfl), fun i hi => vk_R.same (u := U) (U := U.calling gf mk a) rfl (h.2.2.2.1 i hi), va_AO.moved (u := U) (U := U.calling gf mk a) (Vm.Alike.refl U.vm) h.2.2.2.2.1, rm_AA.moved (u := U) (U := U.calling gf mk a) (Vm.Alike.refl U.vm) h.2.2.2.2.2⟩
def rm_Cx (X : rb_X) (g : rb_G) (B q o : Nat) (cc : ByteArray) (nL d mc ms : Nat) : Prop := match X with
  | (p, _, _, R, s, m, args, _, _, c) => p.tables.exec = Jvm.exec ∧ c.code = cc ∧ c.maxLocals = nL ∧ s.vm.findClass (rb_on o) = some m.cls ∧ (∀ w ∈ rb_tbl, w.before args s = true) ∧ (d ≤ R.frames ∧ 40 * d ≤ R.locals ∧ mc ≤ R.cells ∧ ms ≤ R.slots) ∧ rm_C g B s ∧ B ≤ q
def rm_Ok (X : rb_X) (g : rb_G) (q nL cs ss : Nat) (Q : State → Prop) (L : List va_E) (pc : Nat) (lv : List (Nat × Value)) (st : List Value) : Prop := match X with
  | (p, l, e, R, s, m, args, below, meth, c) => ∀ (H : Heap) (locs : List Loc) (ls : Array Slot), H.size = q + L.length → rm_P g H q L → va_S (rm_Nw q) s.heap H locs → lv_has ls nL lv → W p l e R s m args below meth c H locs cs ss Q (F0 m pc ls st)
def rm_in (X : rb_X) : Prop := match X with
  | (_, _, _, _, _, _, _, _, meth, _) => meth.name = "<init>" ∧ meth.sig.returnType = none ∧ meth.locks = false
section RM
variable {X : rb_X} {g : rb_G} {B q o nL d mc ms cs ss pc idx : Nat} {Q : State → Prop} {cc : ByteArray} {L : List va_E} {lv : List (Nat × Value)} {st : List Value}
theorem rm_aload_n (C : rm_Cx X g B q o cc nL d mc ms) {j : Fin 4} {a : Nat} (hdg : decode cc pc = .ok (.aload_n j, 1)) (i : Nat) (hv : lv[i]? = some (j.val, .ref a)) (k : rm_Ok X g q nL cs ss Q L (pc + 1) lv (.ref a :: st)) : rm_Ok X g q nL cs ss Q L pc lv st := by
  obtain ⟨p, l, e, R, s, m, args, below, meth, c⟩ := X
  obtain ⟨hx, hb, -⟩ := C
  intro H locs ls hz hP hS hl
  exact lv_aload_n hx hb hdg rfl (lv_at hl i hv) (k H locs ls hz hP hS hl)
theorem rm_iload_n (C : rm_Cx X g B q o cc nL d mc ms) {j : Fin 4} {a : Int32} (hdg : decode cc pc = .ok (.iload_n j, 1)) (i : Nat) (hv : lv[i]? = some (j.val, .int a)) (k : rm_Ok X g q nL cs ss Q L (pc + 1) lv (.int a :: st)) : rm_Ok X g q nL cs ss Q L pc lv st := by
  obtain ⟨p, l, e, R, s, m, args, below, meth, c⟩ := X
  obtain ⟨hx, hb, -⟩ := C
  intro H locs ls hz hP hS hl
  exact lv_iload_n hx hb hdg rfl (lv_at hl i hv) (k H locs ls hz hP hS hl)
theorem rm_bipush (C : rm_Cx X g B q o cc nL d mc ms) {n : Int} {z : Int32} (hdg : decode cc pc = .ok (.bipush n, 2)) (hz : (Int8.ofInt n).toInt32 = z) (k : rm_Ok X g q nL cs ss Q L (pc + 2) lv (.int z :: st)) : rm_Ok X g q nL cs ss Q L pc lv st := by
  obtain ⟨p, l, e, R, s, m, args, below, meth, c⟩ := X
  obtain ⟨hx, hb, -⟩ := C
  subst hz
  intro H locs ls hz hP hS hl
  exact lv_bipush hx hb hdg rfl (k H locs ls hz hP hS hl)
theorem rm_sipush (C : rm_Cx X g B q o cc nL d mc ms) {n : Int} {z : Int32} (hdg : decode cc pc = .ok (.sipush n, 3)) (hz : (Int16.ofInt n).toInt32 = z) (k : rm_Ok X g q nL cs ss Q L (pc + 3) lv (.int z :: st)) : rm_Ok X g q nL cs ss Q L pc lv st := by
  obtain ⟨p, l, e, R, s, m, args, below, meth, c⟩ := X
  obtain ⟨hx, hb, -⟩ := C
  subst hz
  intro H locs ls hz hP hS hl
  exact lv_sipush hx hb hdg rfl (k H locs ls hz hP hS hl)
theorem rm_iconst (C : rm_Cx X g B q o cc nL d mc ms) {n : Int} {z : Int32} (hdg : decode cc pc = .ok (.iconst n, 1)) (hz : Int32.ofInt n = z) (k : rm_Ok X g q nL cs ss Q L (pc + 1) lv (.int z :: st)) : rm_Ok X g q nL cs ss Q L pc lv st := by
  obtain ⟨p, l, e, R, s, m, args, below, meth, c⟩ := X
  obtain ⟨hx, hb, -⟩ := C
  subst hz
  intro H locs ls hz hP hS hl
  exact lv_iconst hx hb hdg rfl (k H locs ls hz hP hS hl)
theorem rm_dup (C : rm_Cx X g B q o cc nL d mc ms) {a : Nat} (hdg : decode cc pc = .ok (.dup, 1)) (k : rm_Ok X g q nL cs ss Q L (pc + 1) lv (.ref a :: .ref a :: st)) : rm_Ok X g q nL cs ss Q L pc lv (.ref a :: st) := by
  obtain ⟨p, l, e, R, s, m, args, below, meth, c⟩ := X
  obtain ⟨hx, hb, -⟩ := C
  intro H locs ls hz hP hS hl
  exact lv_dup hx hb hdg rfl (k H locs ls hz hP hS hl)
/-- Object() -/
theorem rm_obj (C : rm_Cx X g B q o cc nL d mc ms) {a : Nat} (hd : 1 ≤ d) (hct : rb_ct st ≤ 8) (hdg : decode cc pc = .ok (.invokespecial idx, 3)) (h1 : Cond.methodLink (rb_on o) idx objectInit ∈ rb_tbl) (h2 : Cond.instanceMethod objectInit ∈ rb_tbl) (h3 : Cond.code objectInit ⟨#[0xb1]⟩ 1 none ∈ rb_tbl) (k : rm_Ok X g q nL cs ss Q L (pc + 3) lv st) : rm_Ok X g q nL cs ss Q L pc lv (.ref a :: st) := by
  obtain ⟨p, l, e, R, s, m, args, below, meth, c⟩ := X
  obtain ⟨hx, hb, hml, hown, hts, ⟨r1, r2, r3, r4⟩, hC, hq⟩ := C
  intro H locs ls hz hP hS hl
  refine W.objInit hx hb hown (hts _ h1) (hts _ h2) (hts _ h3) rfl (hl.1.trans hml.symm) rfl hdg (by omega) ?_ (k H locs ls hz hP hS hl)
  show 2 * 0 + (st.map fun v => v.category).sum + 12 ≤ R.locals
  have : (st.map fun v => v.category).sum = rb_ct st := rfl
  omega
/-- a new array -/
theorem rm_newa (C : rm_Cx X g B q o cc nL d mc ms) {atype : ArrayType} {t : Nat} {n : Int32} {N : Nat} {a0 : vp_A} (hdg : decode cc pc = .ok (.newarray atype, 2)) (harr : Cond.arrayClass (newarray.typeOf atype) ∈ rb_tbl) (ht : (rb_tys g)[t]? = some (rb_tc g (10 + t), newarray.typeOf atype))
    (ha : ∀ cA : ClassId, vp_cell cA a0 = arrV cA N (fun _ => defaultValue (newarray.typeOf atype))) (hn : ¬ n < 0) (hN : n.toNatClampNeg = N) (hby : N * componentBytes (newarray.typeOf atype) ≤ 536870912) (hcs : cs + 1 ≤ mc) (hss : ss + N ≤ ms)
    (k : rm_Ok X g q nL (cs + 1) (ss + N) Q (L ++ [.inl (rb_tc g (10 + t), a0)]) (pc + 2) lv (.ref (q + L.length) :: st)) : rm_Ok X g q nL cs ss Q L pc lv (.int n :: st) := by
  obtain ⟨p, l, e, R, s, m, args, below, meth, c⟩ := X
  obtain ⟨hx, hb, hml, hown, hts, ⟨r1, r2, r3, r4⟩, hC, hq⟩ := C
  intro H locs ls hz hP hS hl
  refine va_newaK hx hb (hts _ harr) rfl hdg rfl hn hN hby (by omega) (by omega) hz fun H1 cA e1 z1 o1 hAr hNm => ?_
  have hra : s.vm.findClass ("[" ++ (newarray.typeOf atype).toString) = some (rb_tc g (10 + t)) := by
    have := (hC.1.2 t _ ht).2
    cases atype <;> exact this
  have hcA : cA = rb_tc g (10 + t) := Option.some.inj (hNm.symm.trans hra)
  subst hcA
  refine k H1 locs ls (by rw [z1, List.length_append]; rfl) (rm_P_app (rm_P_kept hP o1) (rm_P_one ?_)) ⟨Nat.le_trans hS.1 (by omega), fun x h1 h2 => (o1 x (by have := hS.1; omega)).trans (hS.2.1 x h1 h2), hS.2.2⟩ hl
  show H1[q + L.length]? = some (vp_cell _ a0)
  rw [ha]
  exact e1
/-- a new object -/
theorem rm_new (C : rm_Cx X g B q o cc nL d mc ms) {ci : Nat} {fs : List Value} (hci : ci < 10) (hdg : decode cc pc = .ok (.new idx, 3)) (hcl : Cond.classLink (rb_on o) idx (rb_cq ci).1 ∈ rb_tbl) (hin : Cond.instantiable (rb_cq ci).1 (rb_cq ci).2.2 ∈ rb_tbl) (hini : Cond.initialized (rb_cq ci).1 ∈ rb_tbl)
    (hfs : ∀ j, j < (rb_cq ci).2.2 → defaultValue (rb_ft ci j) = vp_V fs j) (hcs : cs + 1 ≤ mc) (hss : ss + (rb_cq ci).2.2 ≤ ms)
    (k : rm_Ok X g q nL (cs + 1) (ss + (rb_cq ci).2.2) Q (L ++ [.inr (ci, fs)]) (pc + 3) lv (.ref (q + L.length) :: st)) : rm_Ok X g q nL cs ss Q L pc lv st := by
  obtain ⟨p, l, e, R, s, m, args, below, meth, c⟩ := X
  obtain ⟨hx, hb, hml, hown, hts, ⟨r1, r2, r3, r4⟩, hC, hq⟩ := C
  intro H locs ls hz hP hS hl
  have hKn := hC.1.1 ci _ (rb_cl_at ci hci)
  refine W.newcK hx hb hown (hts _ hcl) (hts _ hin) (hts _ hini) rfl hdg (by omega) (by omega) hKn.2.1 hz fun H1 kC hkC e1 z1 o1 => ?_
  refine k H1 locs ls (by rw [z1, List.length_append]; rfl) (rm_P_app (rm_P_kept hP o1) (rm_P_one ?_)) ⟨Nat.le_trans hS.1 (by omega), fun x h1 h2 => (o1 x (by have := hS.1; omega)).trans (hS.2.1 x h1 h2), hS.2.2⟩ hl
  exact ⟨_, rb_cl_at ci hci, (u_born (rb_ft ci) hts (rb_in ci hci) hKn hkC e1 (rb_ft_ok ci hci)).to hfs⟩
/-- a field is set -/
theorem rm_put (C : rm_Cx X g B q o cc nL d mc ms) (hi : rm_in X) {ci k j : Nat} {fs : List Value} {v : Value} (hci : ci < 10) (hdg : decode cc pc = .ok (.putfield idx, 3)) (hf : rb_fl o idx = some (ci, k)) (hL : L[j]? = some (.inr (ci, fs))) (hl' : k < fs.length) (hdecl : ((rb_cq ci).2.1 k).1 = rb_on o) (hn : narrow (rb_ft ci k) v = v) (hfit : fits (rb_ft ci k) v = true)
    (kk : rm_Ok X g q nL cs ss Q (L.set j (.inr (ci, fs.set k v))) (pc + 3) lv st) : rm_Ok X g q nL cs ss Q L pc lv (v :: .ref (q + j) :: st) := by
  obtain ⟨p, l, e, R, s, m, args, below, meth, c⟩ := X
  obtain ⟨hx, hb, hml, hown, hts, ⟨r1, r2, r3, r4⟩, hC, hq⟩ := C
  obtain ⟨⟨ha, hk⟩, hwd⟩ := rb_fl_ok hf
  dsimp only at ha hk hwd
  intro H locs ls hz hP hS hl
  have key : ∀ (H1 : Heap) (locs1 : List Loc), H1.size = H.size → va_P (rb_D g) rb_cl ((rm_ws q L).set j (q + j, .inr (ci, fs.set k v))) H1 → va_S (rm_Nw q) s.heap H1 locs1 → W p l e R s m args below meth c H1 locs1 cs ss Q (F0 m (pc + 3) ls st) := fun H1 locs1 hz1 hP1 hS1 => by
    rw [rm_ws_set] at hP1
    exact kk H1 locs1 ls (by rw [hz1, hz, List.length_set]) hP1 hS1 hl
  by_cases hfin : ((rb_cq ci).2.1 k).2.2.2 = true
  · exact rm_putF0 (H0 := s.heap) (A := rm_Nw q) (D := rb_D g) (cl := rb_cl) (tys := rb_tys g) (ws := rm_ws q L) (a := q + j) hx hb hts (rb_in ci hci) (rb_ft ci) (rb_ft_ok ci hci) (rb_nm_ok ci hci) hown hC.1 hP (rm_D (Nat.le_refl q) L) hS j (rm_ws_at hL) (rb_cl_at ci hci) k hk (hts _ hwd) (fun _ h => h) hfin hi.1 hdecl (rb_ft_ok ci hci k hk) hn hfit hl' hdg (fun H1 locs1 hz1 hP1 hD1 hS1 => key H1 locs1 hz1 hP1 hS1)
  · exact rm_put0 (H0 := s.heap) (A := rm_Nw q) (D := rb_D g) (cl := rb_cl) (tys := rb_tys g) (ws := rm_ws q L) (a := q + j) hx hb hts (rb_in ci hci) (rb_ft ci) (rb_ft_ok ci hci) (rb_nm_ok ci hci) hown hC.1 hP (rm_D (Nat.le_refl q) L) hS j (rm_ws_at hL) (rb_cl_at ci hci) k hk (hts _ hwd) (fun _ h => h) (by simpa using hfin) (rb_ft_ok ci hci k hk) hn hfit hl' hdg (fun H1 locs1 hz1 hP1 hD1 hS1 => key H1 locs1 hz1 hP1 hS1)
end RM
