/-! the length of the text of a rule's constructor, while things are made -/
def rm_Sc (l : Launch) (g : rb_G) (B mm d : Nat) (v : Int32) : Prop := Met l (rb_mt mm).1 (rb_ws (rb_mt mm)) (rm_rm d 0 0) (va_Pc [.ref (rb_as g 100)] (fun U => rm_C g B U)) (fun _ st o t => o = .returned (some (.int v)) ∧ t.heap = st.heap) 0 0 (fun _ => False)
theorem rm_blindS (g : rb_G) (B : Nat) : FrameBlind (va_Pc [.ref (rb_as g 100)] (fun U => rm_C g B U)) := fun a U gf mk h => ⟨h.1, h.2.calling gf mk a⟩
theorem rm_coder (l : Launch) (g : rb_G) (B : Nat) : rm_Sc l g B 1 0 0 := by
  refine Met.ofW (cc := (rb_mt 1).2.1) (maxL := (rb_mt 1).2.2.1) (ret := (rb_mt 1).2.2.2.1) (rb_mo_all 1 (by decide)).1 rfl ?_
  intro p e s m args below meth c s₁ B' hml hv
  obtain ⟨rfl, hC⟩ := hv
  have hts : ∀ w ∈ rb_tbl, w.before _ s = true := fun w hw => atoms_spec (ws := rb_ws (rb_mt 1)) B'.pre w (List.mem_cons_of_mem _ hw)
  have hown : s.vm.findClass "java/lang/String" = some m.cls := findClass_of_methodNamed B'.named
  have hx := B'.exec
  have hb := B'.bytes
  have hr := B'.returns
  have hlocks := B'.notSynchronized
  have hl := lv_entry [.ref (rb_as g 100)] (n := (rb_mt 1).2.2.1) (Nat.le_of_ble_eq_true rfl)
  rw [lg_entry_eq]
  have hS : va_S (rm_Nw B) s.heap s.heap [] := va_S.rf
  have h2 := hC.2.2.1.2.2.1.1 0 (by decide)
  refine va_gets (index := 38) hx hb hC.2.2.1.2.1 hS hown (hts _ rb_gC) (fun _ h => h) (by decide +kernel) ?_
  refine lv_if_eq (off := 10) hx hb (by decide +kernel) (show ((0 + 3 : Nat) : Int) + 10 = ((13 : Nat) : Int) from rfl) (fun z => absurd z (by decide)) (fun _ => ?_)
  refine lv_aload_n (k := 0) hx hb (by decide +kernel) rfl (lv_at hl 0 rfl) ?_
  refine vk_getf (index := 15) hx hb h2.2.1 hS hown (hts _ rb_gD) (fun _ h => h) (by decide +kernel) ?_
  refine lv_goto (off := 4) hx hb (by decide +kernel) (show ((0 + 3 + 3 + 1 + 3 : Nat) : Int) + 4 = ((14 : Nat) : Int) from rfl) ?_
  exact W.zret (v := 0) (ty := .byte) hx hb hr rfl (fun t ht hW => ⟨rfl, ht⟩) (fun z h => absurd h List.not_mem_nil) (by decide +kernel) hlocks
section SL
variable {p : Program} {l : Launch} {e : Env} {R : Room} {s : State} {m : MethodId} {args : Array Value} {below : List Frame} {meth : Method} {c : Code} {H : Heap} {locs : List Loc} {cells slots : Nat} {Q : State → Prop} {cc : ByteArray} {nL idx pc : Nat} {ls : Array Slot} {g : rb_G} {B q o mm d : Nat} {v : Int32}
/-- its call -/
theorem rm_strcall (hx : p.tables.exec = Jvm.exec) (hb : c.code = cc) (hml : c.maxLocals = nL) (hown : s.vm.findClass (rb_on o) = some m.cls) (hts : ∀ w ∈ rb_tbl, w.before args s = true) (hC : rm_C g B s) (hq : B ≤ q) (hS : va_S (rm_Nw q) s.heap H locs) (hM : rm_Sc l g B mm d v) (hmm : mm < 2) (hk : Cond.methodLink (rb_on o) idx (rb_mt mm).1 ∈ rb_tbl) (hR : d + 1 ≤ R.frames ∧ 40 * d + 40 ≤ R.locals) (hcs : cells ≤ R.cells) (hss : slots ≤ R.slots) {st : List Value} (hct : rb_ct st ≤ 8) (hls : ls.size = nL)
    (hdg : decode cc pc = .ok (.invokevirtual idx, 3)) (k : W p l e R s m args below meth c H locs cells slots Q (F0 m (pc + 3) ls (.int v :: st))) : W p l e R s m args below meth c H locs cells slots Q (F0 m pc ls (.ref (rb_as g 100) :: st)) := by
  have hm : mm < rb_nM := Nat.lt_of_lt_of_le hmm (by decide)
  have ho := rb_mo_all mm hm
  obtain ⟨o1, o2, o3, o4, o5, o6⟩ := id ho
  have hcase : (rb_mt mm).2.2.2.2.2 = 98 ∧ (rb_mt mm).1.cls = "java/lang/String" ∧ (rb_mt mm).2.2.2.2.1 = 0 := by
    have key : ∀ m, m < 2 → (rb_mt m).2.2.2.2.2 = 98 ∧ (rb_mt m).1.cls = "java/lang/String" ∧ (rb_mt m).2.2.2.2.1 = 0 := by decide +kernel
    exact key mm hmm
  rw [if_neg (by rw [hcase.1]; decide)] at o6
  obtain ⟨cell, c1, c2, c3⟩ := vk_recv (hC.2.2.1.2.2.1) (i := 0) (by decide) (va_S.rf : va_S (rm_Nw B) s.heap s.heap [])
  have hlt := (Array.getElem?_eq_some_iff.mp c1).1
  have hO : ¬ rm_Nw B (rb_as g (100 + 0)) := by
    obtain ⟨cell, -, -, -, h⟩ := (hC.2.2.1.2.2.1.1 0 (by decide)).1
    exact h
  have hct' : (st.map fun v => v.category).sum ≤ 8 := hct
  have hpre : PreV s H "java/lang/String" (rb_as g 100) (va_Pc [.ref (rb_as g 100)] (fun U => rm_C g B U)) [] := ⟨rm_blindS g B, ⟨cell, by rw [hS.2.1 _ hlt (fun z => hO (Nat.le_trans hq z))]; exact c1, c2, c3⟩, fun U hU hW => ⟨rfl, hC.go hq hW hU hS⟩⟩
  have hrun := va_runV (l := l) (e := e) (below := below) (meth := meth) (H := H) (locs := locs) (cells := cells) (slots := slots) (g := F0 m pc ls (.ref (rb_as g 100) :: st)) (rest := st) (Ts := rb_tbl) (own := rb_on o) (C := "java/lang/String") ⟨hx, hb, hml, hown, hts⟩ hM ⟨callB_of 0 hts (rb_good _ ho) rfl rfl rfl (hts _ o4) (hts _ hk) ⟨o2.1, o2.2.1, by rw [o2.2.2, hcase.2.2]⟩ ⟨hR.1, by show 8 + ((rb_mt mm).2.2.1 + 11) + 40 * d ≤ R.locals; omega⟩, hts _ o6.1, by rw [← hcase.2.1]; exact hts _ o6.2⟩ hpre rfl rfl hls rfl (lv_room hct') hdg ⟨hcs, hss⟩
  intro T hT XX
  obtain ⟨v', st₀, t, T', Lx, h0, X', hL, e1, e2, ⟨hv, hh⟩, stp⟩ := hrun T hT XX
  cases hv
  have hLx : Lx = [] := by
    cases Lx with
    | nil => rfl
    | cons a t => exact (hL a List.mem_cons_self).elim
  subst hLx
  rw [List.append_nil] at X'
  obtain ⟨t2, a1, b1⟩ := k T' (by rw [e1, hh, h0]) X'
  exact ⟨t2, stp t2 a1, b1⟩
end SL
theorem rm_length (l : Launch) (g : rb_G) (B : Nat) : rm_Sc l g B 0 1 7 := by
  refine Met.ofW (cc := (rb_mt 0).2.1) (maxL := (rb_mt 0).2.2.1) (ret := (rb_mt 0).2.2.2.1) (rb_mo_all 0 (by decide)).1 rfl ?_
  intro p e s m args below meth c s₁ B' hml hv
  obtain ⟨rfl, hC⟩ := hv
  have hts : ∀ w ∈ rb_tbl, w.before _ s = true := fun w hw => atoms_spec (ws := rb_ws (rb_mt 0)) B'.pre w (List.mem_cons_of_mem _ hw)
  have hown : s.vm.findClass "java/lang/String" = some m.cls := findClass_of_methodNamed B'.named
  have hx := B'.exec
  have hb := B'.bytes
  have hr := B'.returns
  have hlocks := B'.notSynchronized
  have hl := lv_entry [.ref (rb_as g 100)] (n := (rb_mt 0).2.2.1) (Nat.le_of_ble_eq_true rfl)
  rw [lg_entry_eq]
  have hS : va_S (rm_Nw B) s.heap s.heap [] := va_S.rf
  have h2 := hC.2.2.1.2.2.1.1 0 (by decide)
  refine lv_aload_n (k := 0) hx hb (by decide +kernel) rfl (lv_at hl 0 rfl) ?_
  refine vk_getf (index := 9) hx hb h2.2.2.1 hS hown (hts _ rb_gV) (fun _ h => h) (by decide +kernel) ?_
  obtain ⟨cell, k1, k2, k3, k4, k5, k6, k7⟩ := h2.2.2.2
  refine W.alen (n := 7) hx hb k1 k2 k5 rfl rfl (show decode (rb_mt 0).2.1 4 = .ok (.arraylength, 1) by decide +kernel) ?_
  refine W.eq (g2 := F0 m 5 _ [.int 7]) rfl ?_
  refine lv_aload_n (k := 0) hx hb (by decide +kernel) rfl (lv_at hl 0 rfl) ?_
  refine rm_strcall (o := 10) (idx := 335) (mm := 1) (d := 0) (v := 0) (q := B) hx hb hml hown hts hC (Nat.le_refl _) hS (rm_coder l g B) (by decide) (rb_ml_ok (o := 10) (idx := 335) (q := (0, 11)) rfl) ⟨Nat.le_refl _, Nat.le_of_ble_eq_true rfl⟩ (Nat.le_refl _) (Nat.le_refl _) (Nat.le_of_ble_eq_true rfl) hl.1 (by decide +kernel) ?_
  refine lv_ishr hx hb (by decide +kernel) ?_
  refine W.eq (g2 := F0 m 10 _ [.int 7]) rfl ?_
  exact W.zret (v := 7) (ty := .int) hx hb hr rfl (fun t ht hW => ⟨rfl, ht⟩) (fun z h => absurd h List.not_mem_nil) (by decide +kernel) hlocks
section RML
variable {X : rb_X} {g : rb_G} {B q o nL d mc ms cs ss pc idx : Nat} {Q : State → Prop} {cc : ByteArray} {L : List va_E} {lv : List (Nat × Value)} {st : List Value}
/-- "xydkqcn".length() -/
theorem rm_ldlen (C : rm_Cx X g B q 4 cc nL d mc ms) (hd : 2 ≤ d) (hcs : cs ≤ mc) (hss : ss ≤ ms) (hct : rb_ct st ≤ 8) (d0 : decode cc pc = .ok (.ldc 25, 2)) (d2 : decode cc (pc + 2) = .ok (.invokevirtual 27, 3)) (k : rm_Ok X g q nL cs ss Q L (pc + 5) lv (.int 7 :: st)) : rm_Ok X g q nL cs ss Q L pc lv st := by
  obtain ⟨p, l, e, R, s, m, args, below, meth, c⟩ := X
  obtain ⟨hx, hb, hml, hown, hts, ⟨r1, r2, r3, r4⟩, hC, hq⟩ := C
  intro H locs ls hz hP hS hl
  have hR : vk_R "RentBoard$Rule" 25 (rb_ss 0).2.2 (rb_as g 100) s := hC.2.2.2.1 0 (by decide)
  refine va_ldcS hx hb hown hR d0 ?_
  exact rm_strcall (o := 4) (idx := 27) (mm := 0) (d := 1) (v := 7) (q := q) hx hb hml hown hts hC hq hS (rm_length l g B) (by decide) (rb_ml_ok (o := 4) (idx := 27) (q := (0, 10)) rfl) ⟨by omega, by omega⟩ (by omega) (by omega) hct hl.1 d2 (k H locs ls hz hP hS hl)
end RML
