/-! the law's calls that may throw -/
section RH
variable {p : Program} {l : Launch} {e : Env} {R : Room} {s : State} {m : MethodId} {args : Array Value} {below : List Frame} {meth : Method} {c : Code} {H : Heap} {locs : List Loc} {Q : State → Prop} {g : rb_G} {A : Nat → Prop} {cs ss : Nat}
theorem rx_run_ok {r : Option Value × rb_H} {pc : Nat} {ls : Array Slot} {st0 rest : List Value} {a : Array Value} (hAn : ∀ q, rb_A g q → A q) (hr : va_Run p l e R s m args below meth c H locs cs ss 1 6 (F0 m pc ls st0) rest (rb_Q g r a) (rb_A g)) (hS : va_S A s.heap H locs)
    (kk : ∀ (H1 : Heap) (locs1 : List Loc), va_P (rb_D g) rb_cl (rb_W g r.2) H1 → va_S A s.heap H1 locs1 → W p l e R s m args below meth c H1 locs1 (cs + 1) (ss + 6) Q (F0 m (pc + 3) ls ((r.1.map (rb_cv g)).toList ++ rest))) : W p l e R s m args below meth c H locs cs ss Q (F0 m pc ls st0) := by
  intro T hT X
  obtain ⟨v, st₀, t, T', L, h0, X', hL, e1, e2, ⟨⟨hv, hp⟩, hz, hk⟩, st⟩ := hr T hT X
  cases hv
  rw [h0] at hz hk
  obtain ⟨t2, a1, b1⟩ := kk T'.heap (locs ++ L) (by rw [e1]; exact hp)
    ⟨Nat.le_trans hS.1 (by rw [e1]; exact hz), fun q h1 h2 => by rw [e1, hk q (Nat.lt_of_lt_of_le h1 hS.1) (fun z => h2 (hAn q z))]; exact hS.2.1 q h1 h2, fun q hq => by
      rcases List.mem_append.mp hq with h | h
      · exact hS.2.2 q h
      · exact hAn _ (hL q h)⟩ T' rfl X'
  exact ⟨t2, st t2 a1, b1⟩
end RH
/-- a call of one of the law's methods -/
theorem rx_callH {X : rb_X} {g : rb_G} {A : Nat → Prop} {nL d cs ss pc b : Nat} {Q : State → Prop} {cc : ByteArray} {rt : Option FieldType} {h : rb_H} {lv : List (Nat × Value)} {st : List Value} {idx : Nat} (C : rq_Cx X g A 14 cc nL rt d (cs + 1) (ss + 6)) (hZ : rx_Z A (rx_s X)) (hdg : decode cc pc = .ok (.invokestatic idx, 3)) {y : MethodName} {cc' : ByteArray} {nL' d' : Nat} {hh : List (Nat × Nat × Nat × Nat)} {res : Option Value × rb_H}
    (hM : rx_He X.2.1 g y cc' nL' hh d' (st.take b).reverse h res) (hd : d' < d ∧ b ≤ st.length ∧ rb_ct (st.drop b) ≤ 8) (hnl : nL' ≤ 21) (w1 : Cond.codeWith y cc' nL' (some .int) hh ∈ rb_tbl) (w2 : Cond.initialized y.cls ∈ rb_tbl) (w3 : Cond.methodLink (rb_on 14) idx y ∈ rb_tbl) (w4 : Cond.static y ∈ rb_tbl) (hy : y.cls ≠ "java/lang/invoke/MethodHandle" ∧ y.cls ≠ "java/lang/invoke/VarHandle" ∧ (parseMethodDescriptor y.desc).map (fun d => d.parameters.length) = some b)
    (k : rq_Ok X g A nL (cs + 1) (ss + 6) Q res.2 (pc + 3) lv (res.1.toList ++ st.drop b)) : rq_Ok X g A nL cs ss Q h pc lv st := by
  obtain ⟨p, l, e, R, s, m, args, below, meth, c⟩ := X
  obtain ⟨hx, hb, hml, hr, hown, hts, hlk, ⟨r1, r2, r3, r4⟩, hSc, hAn, hAo⟩ := C
  have hroom : (rx_rm d').frames + 1 ≤ R.frames ∧ 8 + (nL' + 11) + (rx_rm d').locals ≤ R.locals := by
    have hd1 := hd.1
    refine ⟨?_, ?_⟩
    · show d' + 1 ≤ R.frames
      omega
    · show 8 + (_ + 11) + 40 * d' ≤ R.locals
      omega
  have hG : GoodIn rb_tbl (Cond.codeWith y cc' nL' (some .int) hh :: rb_tbl) := by
    intro w hw
    have hm : w ∈ rb_tbl := by
      rcases List.mem_cons.mp hw with e | e
      · subst e; exact w1
      · exact e
    exact ⟨hm, good_of_word (List.mem_filter.mp hm).2⟩
  intro H locs ls hP hS0 hl
  have hS := rc_S (g := g) hAo hS0
  have hstack : st.map (rb_cv g) = (((st.take b).reverse).map (rb_cv g)).reverse ++ (st.drop b).map (rb_cv g) := by
    rw [List.map_reverse, List.reverse_reverse, ← List.map_append, List.take_append_drop]
  have hlen : (((st.take b).reverse).map (rb_cv g)).length = b := by
    rw [List.length_map, List.length_reverse, List.length_take]
    omega
  have hpre : PreS s H (rx_Pc g (st.take b).reverse h) (((st.take b).reverse).map (rb_cv g)) := ⟨rx_blind g _ h, fun U hU hW => ⟨rfl, by rw [hU]; exact hP, hSc.go hW hU hS, rx_Z.go hZ hW hU hS0 hAn⟩⟩
  have kk : ∀ (H1 : Heap) (locs1 : List Loc), va_P (rb_D g) rb_cl (rb_W g res.2) H1 → va_S A s.heap H1 locs1 → W p l e R s m args below meth c H1 locs1 (cs + 1) (ss + 6) Q (F0 m (pc + 3) ls ((res.1.map (rb_cv g)).toList ++ (st.drop b).map (rb_cv g))) := fun H1 locs1 hP1 hS1 => by
    rw [← rb_st_map]
    exact k H1 locs1 ls hP1 hS1 hl
  have cw : vx_CSW R s args (rb_on 14) idx y cc' nL' (some .int) hh (Cond.codeWith y cc' nL' (some .int) hh :: rb_tbl) (rx_rm d') 1 6 b := ⟨⟨rfl, rfl, hroom.1, hroom.2, pay_in hts hG, List.mem_cons_self⟩, hts _ w1, hts _ w2, ⟨hy.1, hy.2.1⟩, fun sig hs => by
    have h2 := hy.2.2
    rw [hs] at h2
    exact (Option.some.inj h2).symm, hts _ w3, hts _ w4⟩
  exact rx_run_ok (r := res) hAn (vx_runSW (Ts := rb_tbl) (own := rb_on 14) ⟨hx, hb, hml, hown, hts⟩ hM cw hpre rfl hlen hl.1 hstack (lv_room (by rw [rb_ct_map]; exact hd.2.2)) hdg ⟨r3, r4⟩) hS0 kk
theorem lg_cmp_self (x : Int64) : lg_cmp x x = 0 := by
  unfold lg_cmp
  rw [if_neg (Int64.lt_irrefl), if_pos rfl]
section LT
variable {X : rb_X} {g : rb_G} {Q : State → Prop}
def lb_piece0 : List rb_I := [(.aload_n 1, 1, 0, 0, .null), (.aload_n 0, 1, 0, 0, .null), (.iload 4, 2, 0, 0, .null), (.iconst 1, 1, 0, 0, .int 1), (.iadd, 1, 0, 0, .null), (.iaload, 1, 0, 0, .null), (.aload_n 0, 1, 0, 0, .null), (.iload 4, 2, 0, 0, .null), (.iconst 2, 1, 0, 0, .int 2), (.iadd, 1, 0, 0, .null), (.iaload, 1, 0, 0, .null), (.aload_n 3, 1, 0, 0, .null)]
theorem clb_piece0 : rb_kb 14 code 8 312 lb_piece0 = true := by decide +kernel
def lb_piece1 : List rb_I := [(.istore 5, 2, 0, 0, .null), (.aload_n 2, 1, 0, 0, .null), (.aload_n 0, 1, 0, 0, .null), (.iload 4, 2, 0, 0, .null), (.iconst 1, 1, 0, 0, .int 1), (.iadd, 1, 0, 0, .null), (.iaload, 1, 0, 0, .null), (.aload_n 0, 1, 0, 0, .null), (.iload 4, 2, 0, 0, .null), (.iconst 2, 1, 0, 0, .int 2), (.iadd, 1, 0, 0, .null), (.iaload, 1, 0, 0, .null), (.invokevirtual 53, 3, 195, 2, .null), (.istore 6, 2, 0, 0, .null), (.aload_n 2, 1, 0, 0, .null), (.invokevirtual 54, 3, 169, 0, .null), (.iload 5, 2, 0, 0, .null), (.if_icmp .eq 5, 3, 360, 0, .null)]
theorem clb_piece1 : rb_kb 14 code 8 329 lb_piece1 = true := by decide +kernel
def lb_piece2 : List rb_I := [(.iload 5, 2, 0, 0, .null), (.ifCond .ne 15, 3, 377, 0, .null), (.aload_n 3, 1, 0, 0, .null), (.iconst 0, 1, 0, 0, .int 0), (.laload, 1, 0, 0, .null), (.iload 6, 2, 0, 0, .null), (.i2l, 1, 0, 0, .null), (.lcmp, 1, 0, 0, .null), (.ifCond .eq 5, 3, 377, 0, .null)]
theorem clb_piece2 : rb_kb 14 code 8 360 lb_piece2 = true := by decide +kernel
def lb_piece3 : List rb_I := [(.goto 1228, 3, 1605, 0, .null)]
theorem clb_piece3 : rb_kb 14 code 8 377 lb_piece3 = true := by decide +kernel
theorem lg_piece (hl : X.2.1.stackTraces = false) (hZ : rx_Z (rc_N (rx_s X)) (rx_s X)) (hL : rb_xl g ≤ 2560) (CC : ∀ cs ss, cs ≤ 5000 → ss ≤ 70000 → lcx X g cs ss) : lw_go X g Q 312 := by
  intro i h σ cs ss hcs hss hb hσ h1 h2 k
  have C0 := CC cs ss (by omega) (by omega)
  have C1 := CC (cs + 1) (ss + 6) (by omega) (by omega)
  have ob := lw_ob hb hL
  have back : ∀ (z : Int32) (u : Int32) (g1 g2 : rb_H), IC g1 σ → IM g2 σ → Ag cM g1 g2 → fM_piece (lwa g i 1) (lwa g i 2) g1 = some (u, g2) → rb_hF g2 49 7 = z → (z = 0 → rb_hJ g1 93 0 = u.toInt64) → (z = 0 ∨ z = 1) → rc_Ok X g 8 (cs + 1) (ss + 6) Q g1 329 (lwv i) [.int z] := by
    intro z u g1 g2 c1 m2 ag eM t hJ hz
    have fin : ∀ w, rq_Ok X g (rc_N (rx_s X)) 8 (cs + 1) (ss + 6) Q g2 377 ((6, .int u) :: (5, .int w) :: lwv i) [] := fun w => rc_sound C1 lb_piece3 377 _ _ _ clb_piece3 (rc_Ok.sub [2, 3, 4, 5, 6] rfl (k g2 σ hσ (IC_cM c1 ag) m2))
    have e93 : z = 0 → lg_cmp (rb_hJ g2 93 (Int32.toNatClampNeg 0)) u.toInt64 = 0 := fun e => by
      have : rb_hJ g2 93 (Int32.toNatClampNeg 0) = u.toInt64 := by
        rw [show Int32.toNatClampNeg 0 = 0 from rfl, ag.2.1 93 (by decide +kernel) 0, hJ e]
      rw [this]
      exact lg_cmp_self _
    have mid : rq_Ok X g (rc_N (rx_s X)) 8 (cs + 1) (ss + 6) Q g2 360 ((6, .int u) :: (5, .int z) :: lwv i) [] := by
      rcases hz with rfl | rfl
      · exact rc_sound C1 lb_piece2 360 _ _ _ clb_piece2 (And.intro (fun y => absurd rfl y) (fun _ => And.intro (And.intro rfl ob93) (And.intro (fun _ => fin 0) (fun y => absurd (e93 rfl) y))))
      · exact rc_sound C1 lb_piece2 360 _ _ _ clb_piece2 (And.intro (fun _ => fin 1) (fun y => absurd (show ¬ (1 : Int32) = 0 by decide) y))
    exact rc_sound C1 lb_piece1 329 _ _ _ clb_piece1 (And.intro (And.intro rfl ob.1) (And.intro (And.intro rfl ob.2.1) (And.intro rfl (Exists.intro 156 (Exists.intro _ (Exists.intro _ (And.intro (And.intro (Nat.le_of_ble_eq_true rfl) (And.intro (Nat.le_of_ble_eq_true rfl) (Nat.le_of_ble_eq_true rfl))) (And.intro (M_fM_piece X.2.1 g eM) (And.intro rfl (Exists.intro 0 (Exists.intro _ (Exists.intro _ (And.intro (And.intro (Nat.le_of_ble_eq_true rfl) (And.intro (Nat.le_of_ble_eq_true rfl) (Nat.le_of_ble_eq_true rfl))) (And.intro (M_fM_thrown X.2.1 g t) (And.intro (fun _ => mid) (fun y => absurd rfl y))))))))))))))))
  rcases O_piece (lwa g i 1) (lwa g i 2) σ hσ with ⟨r, hC, hM⟩ | ⟨hT, hM⟩
  · obtain ⟨h', e1, c1, ag1⟩ := hC h h1
    have im : IM (rb_sJ h' 93 0 r.toInt64) σ := IM_ag (IM_cC h2 ag1) (Ag_sJ (L := [93]) List.mem_cons_self (Ag_refl _ _)) (by decide +kernel)
    have ic : IC (rb_sJ h' 93 0 r.toInt64) σ := IC_ag c1 (Ag_sJ (L := [93]) List.mem_cons_self (Ag_refl _ _)) (by decide +kernel)
    obtain ⟨g2, eM, t, m2, ag⟩ := hM _ im
    exact rc_sound C0 lb_piece0 312 _ _ _ clb_piece0 (And.intro (And.intro rfl ob.1) (And.intro (And.intro rfl ob.2.1) (rx_callH C1 hZ (idx := 48) (b := 4) (by decide +kernel) (hr_piece (M_fB_piece X.2.1 g e1)) (And.intro (Nat.le_of_ble_eq_true rfl) (And.intro (Nat.le_of_ble_eq_true rfl) (Nat.le_of_ble_eq_true rfl))) (Nat.le_of_ble_eq_true rfl) (rb_w5 69 rfl rfl) (rb_w1 0 rfl rfl) (rb_w5 67 rfl rfl) (rb_w5 68 rfl rfl) ⟨by decide, by decide, by decide +kernel⟩ (back 0 _ _ g2 ic m2 ag eM t (fun _ => by rw [hJ_sJ, if_pos ⟨rfl, rfl⟩]) (Or.inl rfl)))))
  · obtain ⟨u, g2, eM, t, m2, ag⟩ := hM h h2
    exact rc_sound C0 lb_piece0 312 _ _ _ clb_piece0 (And.intro (And.intro rfl ob.1) (And.intro (And.intro rfl ob.2.1) (rx_callH C1 hZ (idx := 48) (b := 4) (by decide +kernel) (ht_piece (tx_piece hl (hT h h1))) (And.intro (Nat.le_of_ble_eq_true rfl) (And.intro (Nat.le_of_ble_eq_true rfl) (Nat.le_of_ble_eq_true rfl))) (Nat.le_of_ble_eq_true rfl) (rb_w5 69 rfl rfl) (rb_w1 0 rfl rfl) (rb_w5 67 rfl rfl) (rb_w5 68 rfl rfl) ⟨by decide, by decide, by decide +kernel⟩ (back 1 _ _ g2 h1 m2 ag eM t (fun e => absurd e (by decide)) (Or.inr rfl)))))
def lb_square0 : List rb_I := [(.aload_n 1, 1, 0, 0, .null), (.aload_n 0, 1, 0, 0, .null), (.iload 4, 2, 0, 0, .null), (.iconst 1, 1, 0, 0, .int 1), (.iadd, 1, 0, 0, .null), (.iaload, 1, 0, 0, .null), (.aload_n 3, 1, 0, 0, .null)]
theorem clb_square0 : rb_kb 14 code 8 380 lb_square0 = true := by decide +kernel
def lb_square1 : List rb_I := [(.istore 5, 2, 0, 0, .null), (.aload_n 2, 1, 0, 0, .null), (.aload_n 0, 1, 0, 0, .null), (.iload 4, 2, 0, 0, .null), (.iconst 1, 1, 0, 0, .int 1), (.iadd, 1, 0, 0, .null), (.iaload, 1, 0, 0, .null), (.invokevirtual 60, 3, 202, 1, .null), (.istore 6, 2, 0, 0, .null), (.aload_n 2, 1, 0, 0, .null), (.invokevirtual 54, 3, 169, 0, .null), (.iload 5, 2, 0, 0, .null), (.if_icmp .eq 5, 3, 416, 0, .null)]
theorem clb_square1 : rb_kb 14 code 8 391 lb_square1 = true := by decide +kernel
def lb_square2 : List rb_I := [(.iload 5, 2, 0, 0, .null), (.ifCond .ne 15, 3, 433, 0, .null), (.aload_n 3, 1, 0, 0, .null), (.iconst 0, 1, 0, 0, .int 0), (.laload, 1, 0, 0, .null), (.iload 6, 2, 0, 0, .null), (.i2l, 1, 0, 0, .null), (.lcmp, 1, 0, 0, .null), (.ifCond .eq 5, 3, 433, 0, .null)]
theorem clb_square2 : rb_kb 14 code 8 416 lb_square2 = true := by decide +kernel
def lb_square3 : List rb_I := [(.goto 1172, 3, 1605, 0, .null)]
theorem clb_square3 : rb_kb 14 code 8 433 lb_square3 = true := by decide +kernel
theorem lg_square (hl : X.2.1.stackTraces = false) (hZ : rx_Z (rc_N (rx_s X)) (rx_s X)) (hL : rb_xl g ≤ 2560) (CC : ∀ cs ss, cs ≤ 5000 → ss ≤ 70000 → lcx X g cs ss) : lw_go X g Q 380 := by
  intro i h σ cs ss hcs hss hb hσ h1 h2 k
  have C0 := CC cs ss (by omega) (by omega)
  have C1 := CC (cs + 1) (ss + 6) (by omega) (by omega)
  have ob := lw_ob hb hL
  have back : ∀ (z : Int32) (u : Int32) (g1 g2 : rb_H), IC g1 σ → IM g2 σ → Ag cM g1 g2 → fM_square (lwa g i 1) g1 = some (u, g2) → rb_hF g2 49 7 = z → (z = 0 → rb_hJ g1 93 0 = u.toInt64) → (z = 0 ∨ z = 1) → rc_Ok X g 8 (cs + 1) (ss + 6) Q g1 391 (lwv i) [.int z] := by
    intro z u g1 g2 c1 m2 ag eM t hJ hz
    have fin : ∀ w, rq_Ok X g (rc_N (rx_s X)) 8 (cs + 1) (ss + 6) Q g2 433 ((6, .int u) :: (5, .int w) :: lwv i) [] := fun w => rc_sound C1 lb_square3 433 _ _ _ clb_square3 (rc_Ok.sub [2, 3, 4, 5, 6] rfl (k g2 σ hσ (IC_cM c1 ag) m2))
    have e93 : z = 0 → lg_cmp (rb_hJ g2 93 (Int32.toNatClampNeg 0)) u.toInt64 = 0 := fun e => by
      have : rb_hJ g2 93 (Int32.toNatClampNeg 0) = u.toInt64 := by
        rw [show Int32.toNatClampNeg 0 = 0 from rfl, ag.2.1 93 (by decide +kernel) 0, hJ e]
      rw [this]
      exact lg_cmp_self _
    have mid : rq_Ok X g (rc_N (rx_s X)) 8 (cs + 1) (ss + 6) Q g2 416 ((6, .int u) :: (5, .int z) :: lwv i) [] := by
      rcases hz with rfl | rfl
      · exact rc_sound C1 lb_square2 416 _ _ _ clb_square2 (And.intro (fun y => absurd rfl y) (fun _ => And.intro (And.intro rfl ob93) (And.intro (fun _ => fin 0) (fun y => absurd (e93 rfl) y))))
      · exact rc_sound C1 lb_square2 416 _ _ _ clb_square2 (And.intro (fun _ => fin 1) (fun y => absurd (show ¬ (1 : Int32) = 0 by decide) y))
    exact rc_sound C1 lb_square1 391 _ _ _ clb_square1 (And.intro (And.intro rfl ob.1) (And.intro rfl (Exists.intro 2 (Exists.intro _ (Exists.intro _ (And.intro (And.intro (Nat.le_of_ble_eq_true rfl) (And.intro (Nat.le_of_ble_eq_true rfl) (Nat.le_of_ble_eq_true rfl))) (And.intro (M_fM_square X.2.1 g eM) (And.intro rfl (Exists.intro 0 (Exists.intro _ (Exists.intro _ (And.intro (And.intro (Nat.le_of_ble_eq_true rfl) (And.intro (Nat.le_of_ble_eq_true rfl) (Nat.le_of_ble_eq_true rfl))) (And.intro (M_fM_thrown X.2.1 g t) (And.intro (fun _ => mid) (fun y => absurd rfl y)))))))))))))))
  rcases O_square (lwa g i 1) σ hσ with ⟨r, hC, hM⟩ | ⟨hT, hM⟩
  · obtain ⟨h', e1, c1, ag1⟩ := hC h h1
    dsimp only at e1
    cases e : fB_square (lwa g i 1) h with
    | none => rw [e] at e1; cases e1
    | some q =>
      rw [e] at e1
      cases e1
      have im : IM (rb_sJ h 93 0 r.toInt64) σ := IM_ag (IM_cC h2 ag1) (Ag_sJ (L := [93]) List.mem_cons_self (Ag_refl _ _)) (by decide +kernel)
      have ic : IC (rb_sJ h 93 0 r.toInt64) σ := IC_ag c1 (Ag_sJ (L := [93]) List.mem_cons_self (Ag_refl _ _)) (by decide +kernel)
      obtain ⟨g2, eM, t, m2, ag⟩ := hM _ im
      exact rc_sound C0 lb_square0 380 _ _ _ clb_square0 (And.intro (And.intro rfl ob.1) (rx_callH C1 hZ (idx := 57) (b := 3) (by decide +kernel) (hr_square (M_fB_square X.2.1 g e)) (And.intro (Nat.le_of_ble_eq_true rfl) (And.intro (Nat.le_of_ble_eq_true rfl) (Nat.le_of_ble_eq_true rfl))) (Nat.le_of_ble_eq_true rfl) (rb_w5 143 rfl rfl) (rb_w1 0 rfl rfl) (rb_w5 141 rfl rfl) (rb_w5 142 rfl rfl) ⟨by decide, by decide, by decide +kernel⟩ (back 0 _ _ g2 ic m2 ag eM t (fun _ => by rw [hJ_sJ, if_pos ⟨rfl, rfl⟩]) (Or.inl rfl))))
  · obtain ⟨u, g2, eM, t, m2, ag⟩ := hM h h2
    exact rc_sound C0 lb_square0 380 _ _ _ clb_square0 (And.intro (And.intro rfl ob.1) (rx_callH C1 hZ (idx := 57) (b := 3) (by decide +kernel) (ht_square (tx_square hl (hT h h1))) (And.intro (Nat.le_of_ble_eq_true rfl) (And.intro (Nat.le_of_ble_eq_true rfl) (Nat.le_of_ble_eq_true rfl))) (Nat.le_of_ble_eq_true rfl) (rb_w5 143 rfl rfl) (rb_w1 0 rfl rfl) (rb_w5 141 rfl rfl) (rb_w5 142 rfl rfl) ⟨by decide, by decide, by decide +kernel⟩ (back 1 _ _ g2 h1 m2 ag eM t (fun e => absurd e (by decide)) (Or.inr rfl))))
def lb_rent0 : List rb_I := [(.aload_n 1, 1, 0, 0, .null), (.aload_n 0, 1, 0, 0, .null), (.iload 4, 2, 0, 0, .null), (.iconst 1, 1, 0, 0, .int 1), (.iadd, 1, 0, 0, .null), (.iaload, 1, 0, 0, .null), (.aload_n 0, 1, 0, 0, .null), (.iload 4, 2, 0, 0, .null), (.iconst 2, 1, 0, 0, .int 2), (.iadd, 1, 0, 0, .null), (.iaload, 1, 0, 0, .null), (.aload_n 3, 1, 0, 0, .null)]
theorem clb_rent0 : rb_kb 14 code 8 436 lb_rent0 = true := by decide +kernel
def lb_rent1 : List rb_I := [(.istore 5, 2, 0, 0, .null), (.aload_n 2, 1, 0, 0, .null), (.aload_n 0, 1, 0, 0, .null), (.iload 4, 2, 0, 0, .null), (.iconst 1, 1, 0, 0, .int 1), (.iadd, 1, 0, 0, .null), (.iaload, 1, 0, 0, .null), (.aload_n 0, 1, 0, 0, .null), (.iload 4, 2, 0, 0, .null), (.iconst 2, 1, 0, 0, .int 2), (.iadd, 1, 0, 0, .null), (.iaload, 1, 0, 0, .null), (.invokevirtual 63, 3, 204, 2, .null), (.istore 6, 2, 0, 0, .null), (.aload_n 2, 1, 0, 0, .null), (.invokevirtual 54, 3, 169, 0, .null), (.iload 5, 2, 0, 0, .null), (.if_icmp .eq 5, 3, 484, 0, .null)]
theorem clb_rent1 : rb_kb 14 code 8 453 lb_rent1 = true := by decide +kernel
def lb_rent2 : List rb_I := [(.iload 5, 2, 0, 0, .null), (.ifCond .ne 15, 3, 501, 0, .null), (.aload_n 3, 1, 0, 0, .null), (.iconst 0, 1, 0, 0, .int 0), (.laload, 1, 0, 0, .null), (.iload 6, 2, 0, 0, .null), (.i2l, 1, 0, 0, .null), (.lcmp, 1, 0, 0, .null), (.ifCond .eq 5, 3, 501, 0, .null)]
theorem clb_rent2 : rb_kb 14 code 8 484 lb_rent2 = true := by decide +kernel
def lb_rent3 : List rb_I := [(.goto 1104, 3, 1605, 0, .null)]
theorem clb_rent3 : rb_kb 14 code 8 501 lb_rent3 = true := by decide +kernel
theorem lg_rent (hl : X.2.1.stackTraces = false) (hZ : rx_Z (rc_N (rx_s X)) (rx_s X)) (hL : rb_xl g ≤ 2560) (CC : ∀ cs ss, cs ≤ 5000 → ss ≤ 70000 → lcx X g cs ss) : lw_go X g Q 436 := by
  intro i h σ cs ss hcs hss hb hσ h1 h2 k
  have C0 := CC cs ss (by omega) (by omega)
  have C1 := CC (cs + 1) (ss + 6) (by omega) (by omega)
  have ob := lw_ob hb hL
  have back : ∀ (z : Int32) (u : Int32) (g1 g2 : rb_H), IC g1 σ → IM g2 σ → Ag cM g1 g2 → fM_rent (lwa g i 1) (lwa g i 2) g1 = some (u, g2) → rb_hF g2 49 7 = z → (z = 0 → rb_hJ g1 93 0 = u.toInt64) → (z = 0 ∨ z = 1) → rc_Ok X g 8 (cs + 1) (ss + 6) Q g1 453 (lwv i) [.int z] := by
    intro z u g1 g2 c1 m2 ag eM t hJ hz
    have fin : ∀ w, rq_Ok X g (rc_N (rx_s X)) 8 (cs + 1) (ss + 6) Q g2 501 ((6, .int u) :: (5, .int w) :: lwv i) [] := fun w => rc_sound C1 lb_rent3 501 _ _ _ clb_rent3 (rc_Ok.sub [2, 3, 4, 5, 6] rfl (k g2 σ hσ (IC_cM c1 ag) m2))
    have e93 : z = 0 → lg_cmp (rb_hJ g2 93 (Int32.toNatClampNeg 0)) u.toInt64 = 0 := fun e => by
      have : rb_hJ g2 93 (Int32.toNatClampNeg 0) = u.toInt64 := by
        rw [show Int32.toNatClampNeg 0 = 0 from rfl, ag.2.1 93 (by decide +kernel) 0, hJ e]
      rw [this]
      exact lg_cmp_self _
    have mid : rq_Ok X g (rc_N (rx_s X)) 8 (cs + 1) (ss + 6) Q g2 484 ((6, .int u) :: (5, .int z) :: lwv i) [] := by
      rcases hz with rfl | rfl
      · exact rc_sound C1 lb_rent2 484 _ _ _ clb_rent2 (And.intro (fun y => absurd rfl y) (fun _ => And.intro (And.intro rfl ob93) (And.intro (fun _ => fin 0) (fun y => absurd (e93 rfl) y))))
      · exact rc_sound C1 lb_rent2 484 _ _ _ clb_rent2 (And.intro (fun _ => fin 1) (fun y => absurd (show ¬ (1 : Int32) = 0 by decide) y))
    exact rc_sound C1 lb_rent1 453 _ _ _ clb_rent1 (And.intro (And.intro rfl ob.1) (And.intro (And.intro rfl ob.2.1) (And.intro rfl (Exists.intro 156 (Exists.intro _ (Exists.intro _ (And.intro (And.intro (Nat.le_of_ble_eq_true rfl) (And.intro (Nat.le_of_ble_eq_true rfl) (Nat.le_of_ble_eq_true rfl))) (And.intro (M_fM_rent X.2.1 g eM) (And.intro rfl (Exists.intro 0 (Exists.intro _ (Exists.intro _ (And.intro (And.intro (Nat.le_of_ble_eq_true rfl) (And.intro (Nat.le_of_ble_eq_true rfl) (Nat.le_of_ble_eq_true rfl))) (And.intro (M_fM_thrown X.2.1 g t) (And.intro (fun _ => mid) (fun y => absurd rfl y))))))))))))))))
  rcases O_rent (lwa g i 1) (lwa g i 2) σ hσ with ⟨r, hC, hM⟩ | ⟨hT, hM⟩
  · obtain ⟨h', e1, c1, ag1⟩ := hC h h1
    have im : IM (rb_sJ h' 93 0 r.toInt64) σ := IM_ag (IM_cC h2 ag1) (Ag_sJ (L := [93]) List.mem_cons_self (Ag_refl _ _)) (by decide +kernel)
    have ic : IC (rb_sJ h' 93 0 r.toInt64) σ := IC_ag c1 (Ag_sJ (L := [93]) List.mem_cons_self (Ag_refl _ _)) (by decide +kernel)
    obtain ⟨g2, eM, t, m2, ag⟩ := hM _ im
    exact rc_sound C0 lb_rent0 436 _ _ _ clb_rent0 (And.intro (And.intro rfl ob.1) (And.intro (And.intro rfl ob.2.1) (rx_callH C1 hZ (idx := 61) (b := 4) (by decide +kernel) (hr_rent (M_fB_rent X.2.1 g e1)) (And.intro (Nat.le_of_ble_eq_true rfl) (And.intro (Nat.le_of_ble_eq_true rfl) (Nat.le_of_ble_eq_true rfl))) (Nat.le_of_ble_eq_true rfl) (rb_w5 151 rfl rfl) (rb_w1 0 rfl rfl) (rb_w5 149 rfl rfl) (rb_w5 150 rfl rfl) ⟨by decide, by decide, by decide +kernel⟩ (back 0 _ _ g2 ic m2 ag eM t (fun _ => by rw [hJ_sJ, if_pos ⟨rfl, rfl⟩]) (Or.inl rfl)))))
  · obtain ⟨u, g2, eM, t, m2, ag⟩ := hM h h2
    exact rc_sound C0 lb_rent0 436 _ _ _ clb_rent0 (And.intro (And.intro rfl ob.1) (And.intro (And.intro rfl ob.2.1) (rx_callH C1 hZ (idx := 61) (b := 4) (by decide +kernel) (ht_rent (tx_rent hl (hT h h1))) (And.intro (Nat.le_of_ble_eq_true rfl) (And.intro (Nat.le_of_ble_eq_true rfl) (Nat.le_of_ble_eq_true rfl))) (Nat.le_of_ble_eq_true rfl) (rb_w5 151 rfl rfl) (rb_w1 0 rfl rfl) (rb_w5 149 rfl rfl) (rb_w5 150 rfl rfl) ⟨by decide, by decide, by decide +kernel⟩ (back 1 _ _ g2 h1 m2 ag eM t (fun e => absurd e (by decide)) (Or.inr rfl)))))
def lb_row0 : List rb_I := [(.aload_n 1, 1, 0, 0, .null), (.aload_n 0, 1, 0, 0, .null), (.iload 4, 2, 0, 0, .null), (.iconst 1, 1, 0, 0, .int 1), (.iadd, 1, 0, 0, .null), (.iaload, 1, 0, 0, .null), (.aload_n 3, 1, 0, 0, .null)]
theorem clb_row0 : rb_kb 14 code 8 1550 lb_row0 = true := by decide +kernel
def lb_row1 : List rb_I := [(.istore 5, 2, 0, 0, .null), (.aload_n 2, 1, 0, 0, .null), (.aload_n 0, 1, 0, 0, .null), (.iload 4, 2, 0, 0, .null), (.iconst 1, 1, 0, 0, .int 1), (.iadd, 1, 0, 0, .null), (.iaload, 1, 0, 0, .null), (.invokevirtual 220, 3, 283, 1, .null), (.lstore 6, 2, 0, 0, .null), (.aload_n 2, 1, 0, 0, .null), (.invokevirtual 54, 3, 169, 0, .null), (.iload 5, 2, 0, 0, .null), (.if_icmp .eq 5, 3, 1586, 0, .null)]
theorem clb_row1 : rb_kb 14 code 8 1561 lb_row1 = true := by decide +kernel
def lb_row2 : List rb_I := [(.iload 5, 2, 0, 0, .null), (.ifCond .ne 14, 3, 1602, 0, .null), (.aload_n 3, 1, 0, 0, .null), (.iconst 0, 1, 0, 0, .int 0), (.laload, 1, 0, 0, .null), (.lload 6, 2, 0, 0, .null), (.lcmp, 1, 0, 0, .null), (.ifCond .eq 5, 3, 1602, 0, .null)]
theorem clb_row2 : rb_kb 14 code 8 1586 lb_row2 = true := by decide +kernel
def lb_row3 : List rb_I := [(.goto 3, 3, 1605, 0, .null)]
theorem clb_row3 : rb_kb 14 code 8 1602 lb_row3 = true := by decide +kernel
theorem lg_row (hl : X.2.1.stackTraces = false) (hZ : rx_Z (rc_N (rx_s X)) (rx_s X)) (hL : rb_xl g ≤ 2560) (CC : ∀ cs ss, cs ≤ 5000 → ss ≤ 70000 → lcx X g cs ss) : lw_go X g Q 1550 := by
  intro i h σ cs ss hcs hss hb hσ h1 h2 k
  have C0 := CC cs ss (by omega) (by omega)
  have C1 := CC (cs + 1) (ss + 6) (by omega) (by omega)
  have ob := lw_ob hb hL
  have back : ∀ (z : Int32) (u : Int64) (g1 g2 : rb_H), IC g1 σ → IM g2 σ → Ag cM g1 g2 → fM_row (lwa g i 1) g1 = some (u, g2) → rb_hF g2 49 7 = z → (z = 0 → rb_hJ g1 93 0 = u) → (z = 0 ∨ z = 1) → rc_Ok X g 8 (cs + 1) (ss + 6) Q g1 1561 (lwv i) [.int z] := by
    intro z u g1 g2 c1 m2 ag eM t hJ hz
    have fin : ∀ w, rq_Ok X g (rc_N (rx_s X)) 8 (cs + 1) (ss + 6) Q g2 1602 ((6, .long u) :: (5, .int w) :: lwv i) [] := fun w => rc_sound C1 lb_row3 1602 _ _ _ clb_row3 (rc_Ok.sub [2, 3, 4, 5, 6] rfl (k g2 σ hσ (IC_cM c1 ag) m2))
    have e93 : z = 0 → lg_cmp (rb_hJ g2 93 (Int32.toNatClampNeg 0)) u = 0 := fun e => by
      have : rb_hJ g2 93 (Int32.toNatClampNeg 0) = u := by
        rw [show Int32.toNatClampNeg 0 = 0 from rfl, ag.2.1 93 (by decide +kernel) 0, hJ e]
      rw [this]
      exact lg_cmp_self _
    have mid : rq_Ok X g (rc_N (rx_s X)) 8 (cs + 1) (ss + 6) Q g2 1586 ((6, .long u) :: (5, .int z) :: lwv i) [] := by
      rcases hz with rfl | rfl
      · exact rc_sound C1 lb_row2 1586 _ _ _ clb_row2 (And.intro (fun y => absurd rfl y) (fun _ => And.intro (And.intro rfl ob93) (And.intro (fun _ => fin 0) (fun y => absurd (e93 rfl) y))))
      · exact rc_sound C1 lb_row2 1586 _ _ _ clb_row2 (And.intro (fun _ => fin 1) (fun y => absurd (show ¬ (1 : Int32) = 0 by decide) y))
    exact rc_sound C1 lb_row1 1561 _ _ _ clb_row1 (And.intro (And.intro rfl ob.1) (And.intro rfl (Exists.intro 1 (Exists.intro _ (Exists.intro _ (And.intro (And.intro (Nat.le_of_ble_eq_true rfl) (And.intro (Nat.le_of_ble_eq_true rfl) (Nat.le_of_ble_eq_true rfl))) (And.intro (M_fM_row X.2.1 g eM) (And.intro rfl (Exists.intro 0 (Exists.intro _ (Exists.intro _ (And.intro (And.intro (Nat.le_of_ble_eq_true rfl) (And.intro (Nat.le_of_ble_eq_true rfl) (Nat.le_of_ble_eq_true rfl))) (And.intro (M_fM_thrown X.2.1 g t) (And.intro (fun _ => mid) (fun y => absurd rfl y)))))))))))))))
  rcases O_row (lwa g i 1) σ hσ with ⟨r, hC, hM⟩ | ⟨hT, hM⟩
  · obtain ⟨h', e1, c1, ag1⟩ := hC h h1
    dsimp only at e1
    cases e : fB_row (lwa g i 1) h with
    | none => rw [e] at e1; cases e1
    | some q =>
      rw [e] at e1
      cases e1
      have im : IM (rb_sJ h 93 0 r) σ := IM_ag (IM_cC h2 ag1) (Ag_sJ (L := [93]) List.mem_cons_self (Ag_refl _ _)) (by decide +kernel)
      have ic : IC (rb_sJ h 93 0 r) σ := IC_ag c1 (Ag_sJ (L := [93]) List.mem_cons_self (Ag_refl _ _)) (by decide +kernel)
      obtain ⟨g2, eM, t, m2, ag⟩ := hM _ im
      exact rc_sound C0 lb_row0 1550 _ _ _ clb_row0 (And.intro (And.intro rfl ob.1) (rx_callH C1 hZ (idx := 218) (b := 3) (by decide +kernel) (hr_row (M_fB_row X.2.1 g e)) (And.intro (Nat.le_of_ble_eq_true rfl) (And.intro (Nat.le_of_ble_eq_true rfl) (Nat.le_of_ble_eq_true rfl))) (Nat.le_of_ble_eq_true rfl) (rb_w5 159 rfl rfl) (rb_w1 0 rfl rfl) (rb_w5 157 rfl rfl) (rb_w5 158 rfl rfl) ⟨by decide, by decide, by decide +kernel⟩ (back 0 _ _ g2 ic m2 ag eM t (fun _ => by rw [hJ_sJ, if_pos ⟨rfl, rfl⟩]) (Or.inl rfl))))
  · obtain ⟨u, g2, eM, t, m2, ag⟩ := hM h h2
    exact rc_sound C0 lb_row0 1550 _ _ _ clb_row0 (And.intro (And.intro rfl ob.1) (rx_callH C1 hZ (idx := 218) (b := 3) (by decide +kernel) (ht_row (tx_row hl (hT h h1))) (And.intro (Nat.le_of_ble_eq_true rfl) (And.intro (Nat.le_of_ble_eq_true rfl) (Nat.le_of_ble_eq_true rfl))) (Nat.le_of_ble_eq_true rfl) (rb_w5 159 rfl rfl) (rb_w1 0 rfl rfl) (rb_w5 157 rfl rfl) (rb_w5 158 rfl rfl) ⟨by decide, by decide, by decide +kernel⟩ (back 1 _ _ g2 h1 m2 ag eM t (fun e => absurd e (by decide)) (Or.inr rfl))))
end LT
