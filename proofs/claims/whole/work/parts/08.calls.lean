/-! calls -/
theorem rb_blind (g : rb_G) (as : List Value) (h : rb_H) : FrameBlind (rb_Pc g as h) := fun a U gf mk q => ⟨q.1, q.2.1, q.2.2.calling gf mk a⟩
theorem rb_good (q : rb_ME) (hq : rb_mo q) : GoodIn rb_tbl (rb_ws q) := by
  intro w hw
  have hm : w ∈ rb_tbl := by
    rcases List.mem_cons.mp hw with e | e
    · subst e; exact hq.2.2.1
    · exact e
  exact ⟨hm, good_of_word (List.mem_filter.mp hm).2⟩
theorem rb_cls_ck : (List.range rb_nM).all (fun m => decide ((rb_mt m).2.2.2.2.2 < 10 → (rb_cq (rb_mt m).2.2.2.2.2).1 = (rb_mt m).1.cls)) = true := by decide +kernel
section RUN
variable {p : Program} {l : Launch} {e : Env} {R : Room} {s : State} {m : MethodId} {args : Array Value} {below : List Frame} {meth : Method} {c : Code} {H : Heap} {locs : List Loc} {Q : State → Prop} {g : rb_G}
theorem rb_run_ok {r : Option Value × rb_H} {pc : Nat} {ls : Array Slot} {st0 rest : List Value} {a : Array Value} (hr : va_Run p l e R s m args below meth c H locs 0 0 0 0 (F0 m pc ls st0) rest (rb_Q g r a) (rb_A g)) (hS : va_S (rb_A g) s.heap H locs)
    (kk : ∀ (H1 : Heap) (locs1 : List Loc), va_P (rb_D g) rb_cl (rb_W g r.2) H1 → va_S (rb_A g) s.heap H1 locs1 → W p l e R s m args below meth c H1 locs1 0 0 Q (F0 m (pc + 3) ls ((r.1.map (rb_cv g)).toList ++ rest))) : W p l e R s m args below meth c H locs 0 0 Q (F0 m pc ls st0) := by
  intro T hT X
  obtain ⟨v, st₀, t, T', L, h0, X', hL, e1, e2, ⟨⟨hv, hp⟩, hz, hk⟩, st⟩ := hr T hT X
  cases hv
  rw [h0] at hz hk
  obtain ⟨t2, a1, b1⟩ := kk T'.heap (locs ++ L) (by rw [e1]; exact hp)
    ⟨Nat.le_trans hS.1 (by rw [e1]; exact hz), fun q h1 h2 => by rw [e1, hk q (Nat.lt_of_lt_of_le h1 hS.1) h2]; exact hS.2.1 q h1 h2, fun q hq => by
      rcases List.mem_append.mp hq with h | h
      · exact hS.2.2 q h
      · exact hL q h⟩ T' rfl X'
  exact ⟨t2, st t2 a1, b1⟩
end RUN
section S3
variable {X : rb_X} {g : rb_G} {o nL d pc n a b : Nat} {cc : ByteArray} {rt : Option FieldType} {res : Option Value × rb_H} {h : rb_H} {lv : List (Nat × Value)} {st : List Value} {v : Value} {q idx : Nat}
theorem rb_st_map (g : rb_G) (r : Option Value) (st : List Value) : (r.toList ++ st).map (rb_cv g) = (r.map (rb_cv g)).toList ++ st.map (rb_cv g) := by
  cases r <;> rfl
theorem rb_ct_map (g : rb_G) (st : List Value) : ((st.map (rb_cv g)).map fun v => v.category).sum = rb_ct st := by
  rw [List.map_map, show ((fun v : Value => v.category) ∘ rb_cv g) = (fun v => v.category) from funext fun v => rb_cv_cat g v]
  rfl
theorem rb_callS_ok (C : rb_Cx X g o cc nL rt d) (hdg : decode cc pc = .ok (.invokestatic idx, 3)) {kind mm : Nat} (hk : rb_lk o idx kind (mm + 10)) (hm : mm < rb_nM) (hn : (rb_mt mm).2.2.2.2.1 = b) (hs : (rb_mt mm).2.2.2.2.2 = 99) {d' : Nat} {r : Option Value × rb_H} (hd : d' < d ∧ b ≤ st.length ∧ rb_ct (st.drop b) ≤ 8) (hM : rb_Mt X.2.1 g (rb_mt mm) d' (st.take b).reverse h r)
    (k : rb_Ok X g nL res r.2 (pc + 3) lv (r.1.toList ++ st.drop b)) : rb_Ok X g nL res h pc lv st := by
  obtain ⟨p, l, e, R, s, m, args, below, meth, c⟩ := X
  obtain ⟨hx, hb, hml, hr, hown, hts, hlk, hR, hSc⟩ := C
  have ho := rb_mo_all mm hm
  obtain ⟨o1, o2, o3, o4, o5, o6⟩ := id ho
  rw [if_pos hs] at o6
  have hroom : (rb_rm d').frames + 1 ≤ R.frames ∧ 8 + ((rb_mt mm).2.2.1 + 11) + (rb_rm d').locals ≤ R.locals := by
    rw [hR]
    refine ⟨hd.1, ?_⟩
    show 8 + (_ + 11) + 40 * d' ≤ 40 * d
    omega
  intro H locs ls hP hS hl
  have hstack : st.map (rb_cv g) = (((st.take b).reverse).map (rb_cv g)).reverse ++ (st.drop b).map (rb_cv g) := by
    rw [List.map_reverse, List.reverse_reverse, ← List.map_append, List.take_append_drop]
  have hlen : (((st.take b).reverse).map (rb_cv g)).length = b := by
    rw [List.length_map, List.length_reverse, List.length_take]
    omega
  have hpre : PreS s H (rb_Pc g (st.take b).reverse h) (((st.take b).reverse).map (rb_cv g)) := ⟨rb_blind g _ h, fun U hU hW => ⟨rfl, by rw [hU]; exact hP, hSc.go hW hU hS⟩⟩
  have kk : ∀ (H1 : Heap) (locs1 : List Loc), va_P (rb_D g) rb_cl (rb_W g r.2) H1 → va_S (rb_A g) s.heap H1 locs1 → W p l e R s m args below meth c H1 locs1 0 0 (MQ below (rb_Q g res) args s 0 0 (rb_A g)) (F0 m (pc + 3) ls ((r.1.map (rb_cv g)).toList ++ (st.drop b).map (rb_cv g))) := fun H1 locs1 hP1 hS1 => by
    rw [← rb_st_map]
    exact k H1 locs1 ls hP1 hS1 hl
  have h0 : 0 + 0 ≤ R.cells ∧ 0 + 0 ≤ R.slots := by rw [hR]; exact ⟨Nat.le_refl 0, Nat.le_refl 0⟩
  have hyo : rb_yo (mm + 10) = (rb_mt mm).1 := by unfold rb_yo; rw [if_neg (by omega), Nat.add_sub_cancel]
  unfold rb_lk at hk
  rw [hyo] at hk
  by_cases hk0 : kind = 0
  · rw [if_pos hk0] at hk
    refine rb_run_ok (r := r) (va_runS (Ts := rb_tbl) (own := rb_on o) ⟨hx, hb, hml, hown, hts⟩ hM ⟨callB_of b hts (rb_good _ ho) rfl rfl rfl (hts _ o4) (hts _ hk) ⟨o2.1, o2.2.1, by rw [o2.2.2, hn]⟩ hroom, hts _ o6⟩ hpre rfl hlen hl.1 hstack (lv_room (by rw [rb_ct_map]; exact hd.2.2)) hdg h0) hS kk
  · rw [if_neg hk0] at hk
    obtain ⟨host, hk⟩ := hk
    refine rb_run_ok (r := r) (va_runSN (Ts := rb_tbl) (own := rb_on o) (host := host) ⟨hx, hb, hml, hown, hts⟩ hM ⟨va_cnB b hts (rb_good _ ho) rfl rfl rfl (hSc.2.2.2.1 _ _ _ _ hk) (hts _ o4) ⟨o2.1, o2.2.1, by rw [o2.2.2, hn]⟩ hroom, hts _ o6, trivial⟩ hpre rfl hlen hl.1 hstack (lv_room (by rw [rb_ct_map]; exact hd.2.2)) hdg h0) hS kk
theorem rb_callV_ok (C : rb_Cx X g o cc nL rt d) (hdg : decode cc pc = .ok (.invokevirtual idx, 3)) {mm : Nat} (hk : rb_lk o idx 0 (mm + 10)) (hm : mm < rb_nM) (hn : (rb_mt mm).2.2.2.2.1 = b) (hs : (rb_mt mm).2.2.2.2.2 ≠ 99) {ow : Value} {rest : List Value} (hst : st.drop b = ow :: rest) (hw : (∃ q, ow = .ref q ∧ rb_ty q = (rb_mt mm).2.2.2.2.2) ∨ ∃ q, ow = .retAddr q ∧ (100 ≤ q ∧ q < 100 + rb_nS) ∧ (rb_mt mm).2.2.2.2.2 = 98) {d' : Nat} {r : Option Value × rb_H} (hd : d' < d ∧ b ≤ st.length ∧ rb_ct rest ≤ 8) (hM : rb_Mt X.2.1 g (rb_mt mm) d' (ow :: (st.take b).reverse) h r)
    (k : rb_Ok X g nL res r.2 (pc + 3) lv (r.1.toList ++ rest)) : rb_Ok X g nL res h pc lv st := by
  obtain ⟨p, l, e, R, s, m, args, below, meth, c⟩ := X
  obtain ⟨hx, hb, hml, hr, hown, hts, hlk, hR, hSc⟩ := C
  have ho := rb_mo_all mm hm
  obtain ⟨o1, o2, o3, o4, o5, o6⟩ := id ho
  rw [if_neg hs] at o6
  have hck := List.all_eq_true.mp rb_cls_ck mm (List.mem_range.mpr hm)
  have hck := of_decide_eq_true hck
  have hroom : (rb_rm d').frames + 1 ≤ R.frames ∧ 8 + ((rb_mt mm).2.2.1 + 11) + (rb_rm d').locals ≤ R.locals := by
    rw [hR]
    refine ⟨hd.1, ?_⟩
    show 8 + (_ + 11) + 40 * d' ≤ 40 * d
    omega
  intro H locs ls hP hS hl
  have hrecv : ∃ b' : Nat, rb_cv g ow = .ref b' ∧ ∃ cellB : Cell, H[b']? = some cellB ∧ cellB.vm.isStatics = false ∧ s.vm.findClass (rb_mt mm).1.cls = some cellB.cls := by
    rcases hw with ⟨q, rfl, hq⟩ | ⟨q, rfl, hq, h98⟩
    · by_cases h10 : rb_ty q < 10
      · obtain ⟨cell, c1, c2, c3⟩ := va_recv hSc.1 hP (rb_cl_at _ h10) (rb_W_o g h (i := q) rfl h10)
        exact ⟨_, rfl, cell, c1, c2, by rw [← hck (by rw [← hq]; exact h10), ← hq]; exact c3⟩
      · exfalso
        have : ∀ m, m < rb_nM → (rb_mt m).2.2.2.2.2 < 10 ∨ 98 ≤ (rb_mt m).2.2.2.2.2 := by decide +kernel
        rcases this mm hm with z | z
        · omega
        · have ty : ∀ i, rb_ty i < 98 ∨ rb_ty i = 99 := by
            intro i
            unfold rb_ty
            split
            · have key : ∀ i, i < rb_base → rb_tyL.getD i 99 < 98 := by decide +kernel
              rename_i hi
              exact Or.inl (key i hi)
            · split
              · split <;> exact Or.inl (by decide)
              · exact Or.inr rfl
          rcases ty q with y | y
          · omega
          · exact hs (by rw [← hq]; exact y)
    · obtain ⟨cell, c1, c2, c3⟩ := vk_recv hSc.2.2.1.2.2.1 (i := q - 100) (by omega) hS
      have : (rb_mt mm).1.cls = "java/lang/String" := by
        have key : ∀ m, m < rb_nM → (rb_mt m).2.2.2.2.2 = 98 → (rb_mt m).1.cls = "java/lang/String" := by decide +kernel
        exact key mm hm h98
      refine ⟨_, rfl, cell, ?_, c2, by rw [this]; exact c3⟩
      rw [show 100 + (q - 100) = q by omega] at c1
      exact c1
  obtain ⟨b', hb', hcell⟩ := hrecv
  have hstack : st.map (rb_cv g) = (((st.take b).reverse).map (rb_cv g)).reverse ++ .ref b' :: rest.map (rb_cv g) := by
    rw [List.map_reverse, List.reverse_reverse, ← hb', ← List.map_cons, ← hst, ← List.map_append, List.take_append_drop]
  have hlen : (((st.take b).reverse).map (rb_cv g)).length = b := by
    rw [List.length_map, List.length_reverse, List.length_take]
    omega
  have hpre : PreV s H (rb_mt mm).1.cls b' (rb_Pc g (ow :: (st.take b).reverse) h) (((st.take b).reverse).map (rb_cv g)) := ⟨rb_blind g _ h, hcell, fun U hU hW => ⟨by rw [List.map_cons, hb'], by rw [hU]; exact hP, hSc.go hW hU hS⟩⟩
  have kk : ∀ (H1 : Heap) (locs1 : List Loc), va_P (rb_D g) rb_cl (rb_W g r.2) H1 → va_S (rb_A g) s.heap H1 locs1 → W p l e R s m args below meth c H1 locs1 0 0 (MQ below (rb_Q g res) args s 0 0 (rb_A g)) (F0 m (pc + 3) ls ((r.1.map (rb_cv g)).toList ++ rest.map (rb_cv g))) := fun H1 locs1 hP1 hS1 => by
    rw [← rb_st_map]
    exact k H1 locs1 ls hP1 hS1 hl
  have h0 : 0 + 0 ≤ R.cells ∧ 0 + 0 ≤ R.slots := by rw [hR]; exact ⟨Nat.le_refl 0, Nat.le_refl 0⟩
  have hyo : rb_yo (mm + 10) = (rb_mt mm).1 := by unfold rb_yo; rw [if_neg (by omega), Nat.add_sub_cancel]
  unfold rb_lk at hk
  rw [hyo, if_pos rfl] at hk
  exact rb_run_ok (r := r) (va_runV (Ts := rb_tbl) (own := rb_on o) (C := (rb_mt mm).1.cls) ⟨hx, hb, hml, hown, hts⟩ hM ⟨callB_of b hts (rb_good _ ho) rfl rfl rfl (hts _ o4) (hts _ hk) ⟨o2.1, o2.2.1, by rw [o2.2.2, hn]⟩ hroom, hts _ o6.1, hts _ o6.2⟩ hpre rfl hlen hl.1 hstack (lv_room (by rw [rb_ct_map]; exact hd.2.2)) hdg h0) hS kk
end S3
section S4
variable {X : rb_X} {g : rb_G} {o nL d : Nat} {cc : ByteArray} {rt : Option FieldType} {res : Option Value × rb_H}
set_option maxHeartbeats 4000000 in
set_option maxRecDepth 100000 in
/-- a block: what it asks is enough -/
theorem rb_sound (C : rb_Cx X g o cc nL rt d) : ∀ (is : List rb_I) (pc : Nat) (lv : List (Nat × Value)) (st : List Value) (h : rb_H), rb_kb o cc nL pc is = true → rb_wp X.2.1 g d rt res (rb_Ok X g nL res) is pc lv st h → rb_Ok X g nL res h pc lv st := by
  intro is
  induction is with
  | nil => intro pc lv st h _ hw; exact hw
  | cons x is ih =>
    obtain ⟨i, n, a, b, v⟩ := x
    intro pc lv st h hkb hw
    unfold rb_kb at hkb
    simp only [Bool.and_eq_true, decide_eq_true_eq] at hkb
    obtain ⟨⟨⟨hdg, hln⟩, hk⟩, hrest⟩ := hkb
    have fin : ∀ (hs : rb_sws i = false) {q : List (Nat × Value) × List Value}, rb_s0 i v lv st = some q → rb_wp X.2.1 g d rt res (rb_Ok X g nL res) is (pc + n) q.1 q.2 h → rb_Ok X g nL res h pc lv st := by
      intro hs q h1 h2
      rw [hs, Bool.false_or] at hln
      exact rb_s0_ok C hdg (of_decide_eq_true hln) hk h1 (ih _ _ _ _ hrest h2)
    have dfl : ∀ (hs : rb_sws i = false), (match rb_s0 i v lv st with | some q => rb_wp X.2.1 g d rt res (rb_Ok X g nL res) is (pc + n) q.1 q.2 h | none => False) → rb_Ok X g nL res h pc lv st := by
      intro hs hq
      split at hq
      · rename_i q hq1; exact fin hs hq1 hq
      · exact hq.elim
    cases i
    case goto off =>
      have e := of_decide_eq_true hk
      cases of_decide_eq_true hln
      have hw : rb_Ok X g nL res h a lv st := hw
      obtain ⟨p, l, e0, R, s, m, args, below, meth, c⟩ := X
      obtain ⟨hx, hb, hml, hr, hown, hts, hlk, hR, hSc⟩ := C
      intro H locs ls hP hS hl
      exact lv_goto hx hb hdg e (hw H locs ls hP hS hl)
    case if_icmp cnd off =>
      have e := of_decide_eq_true hk
      cases of_decide_eq_true hln
      simp only [rb_wp] at hw
      split at hw
      · rename_i y x st'
        have k1 := hw.1
        have k2 := fun z => ih _ _ _ _ hrest (hw.2 z)
        obtain ⟨p, l, e0, R, s, m, args, below, meth, c⟩ := X
        obtain ⟨hx, hb, hml, hr, hown, hts, hlk, hR, hSc⟩ := C
        intro H locs ls hP hS hl
        cases cnd
        · exact lv_icmp_eq hx hb hdg e (fun z => k1 z H locs ls hP hS hl) (fun z => k2 z H locs ls hP hS hl)
        · exact lv_icmp_ne hx hb hdg e (fun z => k1 z H locs ls hP hS hl) (fun z => k2 (fun w => w z) H locs ls hP hS hl)
        · exact lv_icmp_lt hx hb hdg e (fun z => k1 z H locs ls hP hS hl) (fun z => k2 z H locs ls hP hS hl)
        · exact lv_icmp_ge hx hb hdg e (fun z => k1 z H locs ls hP hS hl) (fun z => k2 z H locs ls hP hS hl)
        · exact lv_icmp_gt hx hb hdg e (fun z => k1 z H locs ls hP hS hl) (fun z => k2 z H locs ls hP hS hl)
        · exact lv_icmp_le hx hb hdg e (fun z => k1 z H locs ls hP hS hl) (fun z => k2 z H locs ls hP hS hl)
      · exact hw.elim
    case ifCond cnd off =>
      have e := of_decide_eq_true hk
      cases of_decide_eq_true hln
      simp only [rb_wp] at hw
      split at hw
      · rename_i x st'
        have k1 := hw.1
        have k2 := fun z => ih _ _ _ _ hrest (hw.2 z)
        obtain ⟨p, l, e0, R, s, m, args, below, meth, c⟩ := X
        obtain ⟨hx, hb, hml, hr, hown, hts, hlk, hR, hSc⟩ := C
        intro H locs ls hP hS hl
        cases cnd
        · exact lv_if_eq hx hb hdg e (fun z => k1 z H locs ls hP hS hl) (fun z => k2 z H locs ls hP hS hl)
        · exact lv_if_ne hx hb hdg e (fun z => k1 z H locs ls hP hS hl) (fun z => k2 (fun w => w z) H locs ls hP hS hl)
        · exact lv_if_lt hx hb hdg e (fun z => k1 z H locs ls hP hS hl) (fun z => k2 z H locs ls hP hS hl)
        · exact lv_if_ge hx hb hdg e (fun z => k1 z H locs ls hP hS hl) (fun z => k2 z H locs ls hP hS hl)
        · exact lv_if_gt hx hb hdg e (fun z => k1 z H locs ls hP hS hl) (fun z => k2 z H locs ls hP hS hl)
        · exact lv_if_le hx hb hdg e (fun z => k1 z H locs ls hP hS hl) (fun z => k2 z H locs ls hP hS hl)
      · exact hw.elim
    case tableswitch dflt lo hi offs =>
      simp only [rb_wp] at hw
      split at hw
      · exact rb_table_ok C hdg hk hw
      · exact hw.elim
    case lookupswitch dflt ps =>
      simp only [rb_wp] at hw
      split at hw
      · exact rb_lookup_ok C hdg hk hw
      · exact hw.elim
    case getfield k =>
      cases of_decide_eq_true hln
      have hk := (Bool.or_eq_true _ _).mp hk
      simp only [rb_wp] at hw
      split at hw
      · rename_i q st'
        obtain ⟨hq, hw⟩ := hw
        rcases hk with hk | hk
        · have hk := of_decide_eq_true hk
          split at hw
          · rename_i hf
            exact rb_getf_ok C hdg hk hq (w := .int (rb_hF h q b)) (by unfold rb_fv; rw [hf]; rfl) (ih _ _ _ _ hrest hw)
          · rename_i hf
            exact rb_getf_ok C hdg hk hq (w := .ref (rb_sr a q b)) (by unfold rb_fv; rw [hf]; rfl) (ih _ _ _ _ hrest hw)
          · rename_i z hf
            refine rb_getf_ok C hdg hk hq (w := .ref (rb_hR h z)) ?_ (ih _ _ _ _ hrest hw.2)
            unfold rb_fv
            rw [hf]
            show (if rb_hR h z = 0 then _ else _) = _
            rw [if_neg (fun e => by have h1 := hw.1; rw [e] at h1; exact absurd h1 (by decide))]
            rfl
        · obtain ⟨-, h2, -⟩ := of_decide_eq_true hk
          exfalso
          dsimp only at h2
          rw [h2] at hq
          have ty : ∀ i, rb_ty i ≠ 20 := by
            intro i
            unfold rb_ty
            split
            · have key : ∀ i, i < rb_base → rb_tyL.getD i 99 ≠ 20 := by decide +kernel
              rename_i hi
              exact key i hi
            · split
              · split <;> decide
              · decide
          exact ty _ hq
      · rename_i q st'
        obtain ⟨hq, hw⟩ := hw
        rcases hk with hk | hk
        · exfalso
          have h1 : a < 10 := (rb_fl_ok (of_decide_eq_true hk)).1.1
          have h2 := hq.1
          omega
        · obtain ⟨h1, -, h2⟩ := of_decide_eq_true hk
          subst h1
          refine rb_sgetf_ok C hdg h2 hq.2 (fun e => ?_) (fun e => ?_)
          · rw [if_pos e] at hw; exact ih _ _ _ _ hrest hw
          · rw [if_neg e] at hw; exact ih _ _ _ _ hrest hw
      · exact hw.elim
    case getstatic k =>
      cases of_decide_eq_true hln
      simp only [rb_wp] at hw
      split at hw
      · rename_i ha; exact rb_getsP_ok C hdg hk ha (ih _ _ _ _ hrest hw)
      · rename_i ha; exact rb_gets_ok C hdg hk ha (ih _ _ _ _ hrest hw)
    case putfield k =>
      cases of_decide_eq_true hln
      have hk := (Bool.and_eq_true _ _).mp hk
      have k1 := of_decide_eq_true hk.1
      have k2 := of_decide_eq_true hk.2
      simp only [rb_wp] at hw
      split at hw
      · exact rb_putI_ok C hdg k1 k2 hw.1.1 hw.1.2.1 hw.1.2.2 (ih _ _ _ _ hrest hw.2)
      · exact rb_putR_ok C hdg k1 k2 hw.1.1 hw.1.2.1 hw.1.2.2 (ih _ _ _ _ hrest hw.2)
      · exact hw.elim
    case arraylength =>
      cases of_decide_eq_true hln
      simp only [rb_wp] at hw
      split at hw
      · exact rb_alen_ok C hdg hw.1 (ih _ _ _ _ hrest hw.2)
      · rcases hw with hw | hw | hw
        · exact rb_alenS_ok C hdg hw.1 (ih _ _ _ _ hrest hw.2)
        · exact rb_alenB_ok C hdg hw.1 (ih _ _ _ _ hrest hw.2)
        · obtain ⟨e1, hw⟩ := hw
          subst e1
          exact rb_alenX_ok C hdg (ih _ _ _ _ hrest hw)
      · exact hw.elim
    case iaload =>
      cases of_decide_eq_true hln
      simp only [rb_wp] at hw
      split at hw
      · exact rb_iald_ok C hdg hw.1.1 hw.1.2 (ih _ _ _ _ hrest hw.2)
      · rename_i i k st'
        rcases hw with hw | hw
        · exact rb_ialdS_ok C hdg hw.1.1 hw.1.2 (ih _ _ _ _ hrest hw.2)
        · obtain ⟨⟨e1, hi⟩, hw⟩ := hw
          subst e1
          exact rb_ialdX_ok C hdg hi (ih _ _ _ _ hrest hw)
      · exact hw.elim
    case caload =>
      cases of_decide_eq_true hln
      simp only [rb_wp] at hw
      split at hw
      · exact rb_cald_ok C hdg hw.1.1 hw.1.2 (ih _ _ _ _ hrest hw.2)
      · exact hw.elim
    case baload =>
      cases of_decide_eq_true hln
      simp only [rb_wp] at hw
      split at hw
      · exact rb_bald_ok C hdg hw.1.1 hw.1.2 (ih _ _ _ _ hrest hw.2)
      · exact rb_baldS_ok C hdg hw.1.1 hw.1.2 (ih _ _ _ _ hrest hw.2)
      · exact hw.elim
    case laload =>
      cases of_decide_eq_true hln
      simp only [rb_wp] at hw
      split at hw
      · exact rb_lald_ok C hdg hw.1.1 hw.1.2 (ih _ _ _ _ hrest hw.2)
      · exact hw.elim
    case aaload =>
      cases of_decide_eq_true hln
      simp only [rb_wp] at hw
      split at hw
      · exact rb_aald_ok C hdg hw.1.1 hw.1.2 (ih _ _ _ _ hrest hw.2)
      · exact hw.elim
    case iastore =>
      cases of_decide_eq_true hln
      simp only [rb_wp] at hw
      split at hw
      · exact rb_iast_ok C hdg hw.1.1 hw.1.2 (ih _ _ _ _ hrest hw.2)
      · exact hw.elim
    case castore =>
      cases of_decide_eq_true hln
      simp only [rb_wp] at hw
      split at hw
      · exact rb_cast_ok C hdg hw.1.1 hw.1.2 (ih _ _ _ _ hrest hw.2)
      · exact hw.elim
    case bastore =>
      cases of_decide_eq_true hln
      have k1 := of_decide_eq_true hk
      simp only [rb_wp] at hw
      split at hw
      · exact rb_bast_ok C hdg k1 hw.1.1 hw.1.2 (ih _ _ _ _ hrest hw.2)
      · exact hw.elim
    case lastore =>
      cases of_decide_eq_true hln
      simp only [rb_wp] at hw
      split at hw
      · exact rb_last_ok C hdg hw.1.1 hw.1.2 (ih _ _ _ _ hrest hw.2)
      · exact hw.elim
    case idiv =>
      cases of_decide_eq_true hln
      simp only [rb_wp] at hw
      split at hw
      · have k := ih _ _ _ _ hrest hw.2
        have k1 := hw.1
        obtain ⟨p, l, e0, R, s, m, args, below, meth, c⟩ := X
        obtain ⟨hx, hb, hml, hr, hown, hts, hlk, hR, hSc⟩ := C
        intro H locs ls hP hS hl
        exact lv_idiv hx hb hdg k1 (k H locs ls hP hS hl)
      · exact hw.elim
    case irem =>
      cases of_decide_eq_true hln
      simp only [rb_wp] at hw
      split at hw
      · have k := ih _ _ _ _ hrest hw.2
        have k1 := hw.1
        obtain ⟨p, l, e0, R, s, m, args, below, meth, c⟩ := X
        obtain ⟨hx, hb, hml, hr, hown, hts, hlk, hR, hSc⟩ := C
        intro H locs ls hP hS hl
        exact lv_irem hx hb hdg k1 (k H locs ls hP hS hl)
      · exact hw.elim
    case ldiv =>
      cases of_decide_eq_true hln
      simp only [rb_wp] at hw
      split at hw
      · have k := ih _ _ _ _ hrest hw.2
        have k1 := hw.1
        obtain ⟨p, l, e0, R, s, m, args, below, meth, c⟩ := X
        obtain ⟨hx, hb, hml, hr, hown, hts, hlk, hR, hSc⟩ := C
        intro H locs ls hP hS hl
        exact lv_ldiv hx hb hdg k1 (k H locs ls hP hS hl)
      · exact hw.elim
    case lrem =>
      cases of_decide_eq_true hln
      simp only [rb_wp] at hw
      split at hw
      · have k := ih _ _ _ _ hrest hw.2
        have k1 := hw.1
        obtain ⟨p, l, e0, R, s, m, args, below, meth, c⟩ := X
        obtain ⟨hx, hb, hml, hr, hown, hts, hlk, hR, hSc⟩ := C
        intro H locs ls hP hS hl
        exact lv_lrem hx hb hdg k1 (k H locs ls hP hS hl)
      · exact hw.elim
    case invokestatic k =>
      cases of_decide_eq_true hln
      simp only [rb_k1] at hk
      split at hk
      · rename_i kind mm hml
        have hlk := rb_ml_ok hml
        dsimp only at hlk
        simp only [Bool.and_eq_true, decide_eq_true_eq] at hk
        obtain ⟨hk1, hk2⟩ := hk
        subst hk1
        simp only [rb_wp] at hw
        split at hw
        · rw [if_pos (by decide), decide_eq_true_eq] at hk2
          rw [hk2.2] at hlk
          split at hw
          · exact rb_cp_ok C hdg hlk hw.1.1 hw.1.2.1 hw.1.2.2.1 hw.1.2.2.2 (ih _ _ _ _ hrest hw.2)
          · exact hw.elim
        · rw [if_pos (by decide), decide_eq_true_eq] at hk2
          rw [hk2.2] at hlk
          split at hw
          · exact rb_m1_ok C hdg hlk hw.1 (ih _ _ _ _ hrest hw.2)
          · exact hw.elim
        · rw [if_pos (by decide), decide_eq_true_eq] at hk2
          rw [hk2.2] at hlk
          split at hw
          · exact rb_m2_ok C hdg hlk hw.1 (ih _ _ _ _ hrest hw.2)
          · exact hw.elim
        · rw [if_pos (by decide), decide_eq_true_eq] at hk2
          rw [hk2.2] at hlk
          split at hw
          · exact rb_m3_ok C hdg hlk hw.1 (ih _ _ _ _ hrest hw.2)
          · exact hw.elim
        · rw [if_pos (by decide), decide_eq_true_eq] at hk2
          rw [hk2.2] at hlk
          split at hw
          · exact rb_m4_ok C hdg hlk hw.1 (ih _ _ _ _ hrest hw.2)
          · exact hw.elim
        · rename_i n0 n1 n2 n3 n4
          by_cases h10 : mm < 10
          · rw [if_pos h10, decide_eq_true_eq] at hk2
            have q := hk2.1
            have q0 : mm ≠ 0 := n0
            have q1 : mm ≠ 1 := n1
            have q2 : mm ≠ 2 := n2
            have q3 : mm ≠ 3 := n3
            have q4 : mm ≠ 4 := n4
            omega
          · rw [if_neg h10] at hk2
            simp only [Bool.and_eq_true, decide_eq_true_eq] at hk2
            obtain ⟨d', v', h', hd, hM, hw⟩ := hw
            have e10 : mm - 10 + 10 = mm := by omega
            rw [← e10] at hlk
            exact rb_callS_ok C hdg hlk hk2.1.1 hk2.1.2 hk2.2 hd hM (ih _ _ _ _ hrest hw)
      · cases hk
    case invokevirtual k =>
      cases of_decide_eq_true hln
      simp only [rb_k1] at hk
      split at hk
      · rename_i kind mm hml
        have hlk := rb_ml_ok hml
        dsimp only at hlk
        simp only [Bool.and_eq_true, decide_eq_true_eq] at hk
        obtain ⟨⟨⟨⟨⟨hk1, hk2⟩, hk3⟩, hk4⟩, hk5⟩, hk6⟩ := hk
        subst hk1
        subst hk2
        have e10 : mm - 10 + 10 = mm := by omega
        rw [← e10] at hlk
        simp only [rb_wp] at hw
        split at hw
        · rename_i q rest hst
          obtain ⟨hq, d', v', h', hd, hM, hw⟩ := hw
          exact rb_callV_ok C hdg hlk hk4 hk5 hk6 hst (Or.inl ⟨_, rfl, hq⟩) hd hM (ih _ _ _ _ hrest hw)
        · rename_i q rest hst
          obtain ⟨hq, d', v', h', hd, hM, hw⟩ := hw
          exact rb_callV_ok C hdg hlk hk4 hk5 hk6 hst (Or.inr ⟨_, rfl, hq⟩) hd hM (ih _ _ _ _ hrest hw)
        · exact hw.elim
      · cases hk
    case ireturn =>
      cases of_decide_eq_true hln
      simp only [rb_wp] at hw
      split at hw
      · exact rb_iret_ok C hdg hw.1 hw.2
      · exact hw.elim
    case lreturn =>
      cases of_decide_eq_true hln
      simp only [rb_wp] at hw
      split at hw
      · exact rb_lret_ok C hdg hw.1 hw.2
      · exact hw.elim
    case areturn =>
      cases of_decide_eq_true hln
      simp only [rb_wp] at hw
      split at hw
      · exact rb_aret_ok C hdg hw.1 hw.2
      · exact hw.elim
    case return_ =>
      cases of_decide_eq_true hln
      simp only [rb_wp] at hw
      split at hw
      · exact rb_vret_ok C hdg hw.1 hw.2
      · exact hw.elim
    all_goals exact dfl rfl hw
end S4
theorem rb_args_c (g : rb_G) : ∀ (as : List Value) (i : Nat), lv_args i (as.map (rb_cv g)) = rb_lc g (lv_args i as)
  | [], _ => rfl
  | v :: as, i => by
    show (i, rb_cv g v) :: lv_args (if (rb_cv g v).category = 2 then i + 2 else i + 1) (as.map (rb_cv g)) = _
    rw [rb_cv_cat, rb_args_c g as]
    rfl
theorem rb_sl_len (g : rb_G) : ∀ (as : List Value), (lg_sl (as.map (rb_cv g))).length = rb_ct as
  | [] => rfl
  | v :: as => by
    have ih := rb_sl_len g as
    show (List.flatMap _ (rb_cv g v :: as.map (rb_cv g))).length = v.category + rb_ct as
    rw [List.flatMap_cons, List.length_append]
    have h2 : (List.flatMap (fun v : Value => if v.category = 2 then [Slot.val v, Slot.second] else [Slot.val v]) (as.map (rb_cv g))).length = rb_ct as := ih
    rw [h2, rb_cv_cat]
    rcases lv_cat v with e | e <;> rw [e] <;> rfl
/-- a method, out of the walk of its body -/
theorem rb_Mt_of {l : Launch} {g : rb_G} {mm o d : Nat} {as : List Value} {h : rb_H} {res : Option Value × rb_H} (hm : mm < rb_nM) (ho : rb_on o = (rb_mt mm).1.cls) (hfit : rb_ct as ≤ (rb_mt mm).2.2.1)
    (body : ∀ X : rb_X, X.2.1 = l → rb_Cx X g o (rb_mt mm).2.1 (rb_mt mm).2.2.1 (rb_mt mm).2.2.2.1 d → rb_Ok X g (rb_mt mm).2.2.1 res h 0 (lv_args 0 as) []) : rb_Mt l g (rb_mt mm) d as h res := by
  have hmo := rb_mo_all mm hm
  refine Met.ofW (cc := (rb_mt mm).2.1) (maxL := (rb_mt mm).2.2.1) (ret := (rb_mt mm).2.2.2.1) hmo.1 rfl ?_
  intro p e s m args below meth c s₁ B hml hv
  obtain ⟨rfl, hP, hSc⟩ := hv
  have hts := atoms_spec (ws := rb_ws (rb_mt mm)) B.pre
  have hown : s.vm.findClass (rb_mt mm).1.cls = some m.cls := findClass_of_methodNamed B.named
  have hl := lv_entry (as.map (rb_cv g)) (n := (rb_mt mm).2.2.1) (by rw [rb_sl_len]; exact hfit)
  rw [lg_entry_eq]
  rw [rb_args_c] at hl
  exact body (p, l, e, rb_rm d, s, m, (as.map (rb_cv g)).toArray, below, meth, c) rfl ⟨B.exec, B.bytes, hml, B.returns, by rw [ho]; exact hown, fun w hw => hts w (List.mem_cons_of_mem _ hw), B.notSynchronized, rfl, hSc⟩ s.heap [] _ hP va_S.rf hl
