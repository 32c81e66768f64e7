/-! the law's own frame: any room, any number of cells behind it, any end -/
def rq_Cx (X : rb_X) (g : rb_G) (A : Nat → Prop) (o : Nat) (cc : ByteArray) (nL : Nat) (rt : Option FieldType) (d cs ss : Nat) : Prop :=
  match X with
  | (p, _, _, R, s, m, args, _, meth, c) => p.tables.exec = Jvm.exec ∧ c.code = cc ∧ c.maxLocals = nL ∧ meth.sig.returnType = rt ∧ s.vm.findClass (rb_on o) = some m.cls ∧ (∀ w ∈ rb_tbl, w.before args s = true) ∧ meth.locks = false ∧ (d ≤ R.frames ∧ 40 * d ≤ R.locals ∧ cs ≤ R.cells ∧ ss ≤ R.slots) ∧ rb_Sc g s ∧ (∀ q, rb_A g q → A q) ∧ ∀ q, q < s.heap.size → A q → rb_A g q
/-- all new cells -/
def rc_N (s : State) : Nat → Prop := fun q => s.heap.size ≤ q
def rq_Ok (X : rb_X) (g : rb_G) (A : Nat → Prop) (nL : Nat) (cs ss : Nat) (Q : State → Prop) (h : rb_H) (pc : Nat) (lv : List (Nat × Value)) (st : List Value) : Prop :=
  match X with
  | (p, l, e, R, s, m, args, below, meth, c) => ∀ (H : Heap) (locs : List Loc) (ls : Array Slot), va_P (rb_D g) rb_cl (rb_W g h) H → va_S A s.heap H locs → lv_has ls nL (rb_lc g lv) → W p l e R s m args below meth c H locs cs ss Q (F0 m pc ls (st.map (rb_cv g)))
/-- the law's own -/
abbrev rc_Cx (X : rb_X) (g : rb_G) (o : Nat) (cc : ByteArray) (nL : Nat) (rt : Option FieldType) (d cs ss : Nat) : Prop := rq_Cx X g (rc_N X.2.2.2.2.1) o cc nL rt d cs ss
abbrev rc_Ok (X : rb_X) (g : rb_G) (nL : Nat) (cs ss : Nat) (Q : State → Prop) (h : rb_H) (pc : Nat) (lv : List (Nat × Value)) (st : List Value) : Prop := rq_Ok X g (rc_N X.2.2.2.2.1) nL cs ss Q h pc lv st
theorem rc_S {g : rb_G} {A : Nat → Prop} {s : State} {H : Heap} {locs : List Loc} (hAo : ∀ q, q < s.heap.size → A q → rb_A g q) (hS : va_S A s.heap H locs) : va_S (rb_A g) s.heap H [] := ⟨hS.1, fun q h1 h2 => hS.2.1 q h1 (fun z => h2 (hAo q h1 z)), fun _ h => absurd h List.not_mem_nil⟩
section S0
variable {X : rb_X} {g : rb_G} {A : Nat → Prop} {o nL d cs ss pc n a b : Nat} {Q : State → Prop} {cc : ByteArray} {rt : Option FieldType} {h : rb_H} {lv : List (Nat × Value)} {st : List Value} {v : Value} {i : Instr}
set_option maxRecDepth 100000 in
set_option maxHeartbeats 4000000 in
theorem rc_s0_ok (C : rq_Cx X g A o cc nL rt d cs ss) (hdg : decode cc pc = .ok (i, n)) (hn : n = rb_ln i) (hk : rb_k1 o nL pc (i, n, a, b, v) = true) {q : List (Nat × Value) × List Value} (hs : rb_s0 i v lv st = some q) (k : rq_Ok X g A nL cs ss Q h (pc + n) q.1 q.2) : rq_Ok X g A nL cs ss Q h pc lv st := by
  obtain ⟨p, l, e, R, s, m, args, below, meth, c⟩ := X
  obtain ⟨hx, hb, hml, hr, hown, hts, hlk, hR, hSc, hAn, hAo⟩ := C
  subst hn
  cases i
  case iconst z =>
    cases hs
    have hv := of_decide_eq_true hk
    dsimp only at hv
    subst hv
    intro H locs ls hP hS hl
    exact lv_iconst hx hb hdg rfl (k H locs ls hP hS hl)
  case bipush z =>
    cases hs
    have hv := of_decide_eq_true hk
    dsimp only at hv
    subst hv
    intro H locs ls hP hS hl
    exact lv_bipush hx hb hdg rfl (k H locs ls hP hS hl)
  case sipush z =>
    cases hs
    have hv := of_decide_eq_true hk
    dsimp only at hv
    subst hv
    intro H locs ls hP hS hl
    exact lv_sipush hx hb hdg rfl (k H locs ls hP hS hl)
  case lconst z =>
    cases hs
    have hv := of_decide_eq_true hk
    dsimp only at hv
    subst hv
    intro H locs ls hP hS hl
    exact lv_lconst hx hb hdg rfl (k H locs ls hP hS hl)
  case ldc z =>
    cases hs
    have hk := (Bool.and_eq_true _ _).mp hk
    have hw := rb_cs_ok (of_decide_eq_true hk.1)
    cases v with
    | int y => intro H locs ls hP hS hl; exact lv_ldc hx hb hown (hts _ hw) hdg (k H locs ls hP hS hl)
    | long y => cases hk.2
    | retAddr y =>
      obtain ⟨h1, h2, h3, h4⟩ := hw
      have h5 := hSc.2.2.2.2 (y - 100) (by omega)
      rw [h3, h4, show 100 + (y - 100) = y by omega] at h5
      intro H locs ls hP hS hl
      exact va_ldcS hx hb hown h5 hdg (k H locs ls hP hS hl)
    | _ => exact hw.elim
  case ldc_w z =>
    cases hs
    have hk := (Bool.and_eq_true _ _).mp hk
    have hw := rb_cs_ok (of_decide_eq_true hk.1)
    cases v with
    | int y => intro H locs ls hP hS hl; exact lv_ldcw hx hb hown (hts _ hw) hdg (k H locs ls hP hS hl)
    | long y => cases hk.2
    | retAddr y =>
      obtain ⟨h1, h2, h3, h4⟩ := hw
      have h5 := hSc.2.2.2.2 (y - 100) (by omega)
      rw [h3, h4, show 100 + (y - 100) = y by omega] at h5
      intro H locs ls hP hS hl
      exact rb_ldcwS hx hb hown h5 hdg (k H locs ls hP hS hl)
    | _ => exact hw.elim
  case ldc2_w z =>
    cases hs
    have hk := (Bool.and_eq_true _ _).mp hk
    have hw := rb_cs_ok (of_decide_eq_true hk.1)
    cases v with
    | long y => intro H locs ls hP hS hl; exact lv_ldc2 hx hb hown (hts _ hw) hdg (k H locs ls hP hS hl)
    | _ => first | (cases hk.2; done) | exact hw.elim
  case iload z =>
    simp only [rb_s0] at hs
    split at hs
    · rename_i x hg; cases hs; intro H locs ls hP hS hl; exact lv_iload hx hb hdg (hl.2.2 _ (rb_lg_mem (g := g) hg)) (k H locs ls hP hS hl)
    · cases hs
  case iload_n z =>
    simp only [rb_s0] at hs
    split at hs
    · rename_i x hg; cases hs; intro H locs ls hP hS hl; exact lv_iload_n hx hb hdg rfl (hl.2.2 _ (rb_lg_mem (g := g) hg)) (k H locs ls hP hS hl)
    · cases hs
  case lload z =>
    simp only [rb_s0] at hs
    split at hs
    · rename_i x hg; cases hs; intro H locs ls hP hS hl; exact lv_lload hx hb hdg (hl.2.2 _ (rb_lg_mem (g := g) hg)) (k H locs ls hP hS hl)
    · cases hs
  case lload_n z =>
    simp only [rb_s0] at hs
    split at hs
    · rename_i x hg; cases hs; intro H locs ls hP hS hl; exact lv_lload_n hx hb hdg rfl (hl.2.2 _ (rb_lg_mem (g := g) hg)) (k H locs ls hP hS hl)
    · cases hs
  case aload z =>
    simp only [rb_s0] at hs
    split at hs
    · rename_i x hg; cases hs; intro H locs ls hP hS hl; exact lv_aload hx hb hdg (hl.2.2 _ (rb_lg_mem (g := g) hg)) (k H locs ls hP hS hl)
    · rename_i x hg; cases hs; intro H locs ls hP hS hl; exact lv_aload hx hb hdg (hl.2.2 _ (rb_lg_mem (g := g) hg)) (k H locs ls hP hS hl)
    · cases hs
  case aload_n z =>
    simp only [rb_s0] at hs
    split at hs
    · rename_i x hg; cases hs; intro H locs ls hP hS hl; exact lv_aload_n hx hb hdg rfl (hl.2.2 _ (rb_lg_mem (g := g) hg)) (k H locs ls hP hS hl)
    · rename_i x hg; cases hs; intro H locs ls hP hS hl; exact lv_aload_n hx hb hdg rfl (hl.2.2 _ (rb_lg_mem (g := g) hg)) (k H locs ls hP hS hl)
    · cases hs
  case istore z =>
    simp only [rb_s0] at hs
    split at hs
    · rename_i x; cases hs; intro H locs ls hP hS hl; exact lv_istore hx hb hdg hl (of_decide_eq_true hk) (rb_ls1_c g _ (.int _) lv) (fun ls hl => k H locs ls hP hS hl)
    · cases hs
  case istore_n z =>
    simp only [rb_s0] at hs
    split at hs
    · rename_i x; cases hs; intro H locs ls hP hS hl; exact lv_istore_n hx hb hdg rfl hl (of_decide_eq_true hk) (rb_ls1_c g _ (.int _) lv) (fun ls hl => k H locs ls hP hS hl)
    · cases hs
  case lstore z =>
    simp only [rb_s0] at hs
    split at hs
    · rename_i x; cases hs; intro H locs ls hP hS hl; exact lv_lstore hx hb hdg hl (of_decide_eq_true hk) (rb_ls2_c g _ (.long _) lv) (fun ls hl => k H locs ls hP hS hl)
    · cases hs
  case lstore_n z =>
    simp only [rb_s0] at hs
    split at hs
    · rename_i x; cases hs; intro H locs ls hP hS hl; exact lv_lstore_n hx hb hdg rfl hl (of_decide_eq_true hk) (rb_ls2_c g _ (.long _) lv) (fun ls hl => k H locs ls hP hS hl)
    · cases hs
  case astore z =>
    simp only [rb_s0] at hs
    split at hs
    · rename_i x; cases hs; intro H locs ls hP hS hl; exact lv_astore hx hb hdg hl (of_decide_eq_true hk) (rb_ls1_c g _ (.ref _) lv) (fun ls hl => k H locs ls hP hS hl)
    · rename_i x; cases hs; intro H locs ls hP hS hl; exact lv_astore hx hb hdg hl (of_decide_eq_true hk) (rb_ls1_c g _ (.retAddr _) lv) (fun ls hl => k H locs ls hP hS hl)
    · cases hs
  case astore_n z =>
    simp only [rb_s0] at hs
    split at hs
    · rename_i x; cases hs; intro H locs ls hP hS hl; exact lv_astore_n hx hb hdg rfl hl (of_decide_eq_true hk) (rb_ls1_c g _ (.ref _) lv) (fun ls hl => k H locs ls hP hS hl)
    · rename_i x; cases hs; intro H locs ls hP hS hl; exact lv_astore_n hx hb hdg rfl hl (of_decide_eq_true hk) (rb_ls1_c g _ (.retAddr _) lv) (fun ls hl => k H locs ls hP hS hl)
    · cases hs
  case iinc z w =>
    simp only [rb_s0] at hs
    split at hs
    · rename_i x hg
      split at hs
      · rename_i y
        cases hs
        have hk := (Bool.and_eq_true _ _).mp hk
        have hv := of_decide_eq_true hk.1
        dsimp only at hv
        cases hv
        obtain ⟨j, hj⟩ := List.getElem?_of_mem (rb_lg_mem (g := g) hg)
        intro H locs ls hP hS hl
        exact lv_iinc hx hb hdg hl hj rfl (of_decide_eq_true hk.2) (rb_ls1_c g _ (.int _) lv) (fun ls hl => k H locs ls hP hS hl)
      · cases hs
    · cases hs
  case pop =>
    simp only [rb_s0] at hs
    split at hs
    · cases hs; intro H locs ls hP hS hl; exact lv_pop hx hb hdg rfl (k H locs ls hP hS hl)
    · cases hs; intro H locs ls hP hS hl; exact lv_pop hx hb hdg rfl (k H locs ls hP hS hl)
    · cases hs
  case dup =>
    simp only [rb_s0] at hs
    split at hs
    · cases hs; intro H locs ls hP hS hl; exact lv_dup hx hb hdg rfl (k H locs ls hP hS hl)
    · cases hs; intro H locs ls hP hS hl; exact lv_dup hx hb hdg rfl (k H locs ls hP hS hl)
    · cases hs
  case dup_x1 =>
    simp only [rb_s0] at hs
    split at hs
    · cases hs; intro H locs ls hP hS hl; exact lv_dup_x1 hx hb hdg rfl rfl (k H locs ls hP hS hl)
    · cases hs
  case dup2 =>
    simp only [rb_s0] at hs
    split at hs
    · cases hs; intro H locs ls hP hS hl; exact lv_dup2_11 hx hb hdg rfl rfl (k H locs ls hP hS hl)
    · cases hs
  case iadd =>
    simp only [rb_s0] at hs
    split at hs
    · cases hs; intro H locs ls hP hS hl; exact lv_iadd hx hb hdg (k H locs ls hP hS hl)
    · cases hs
  case isub =>
    simp only [rb_s0] at hs
    split at hs
    · cases hs; intro H locs ls hP hS hl; exact lv_isub hx hb hdg (k H locs ls hP hS hl)
    · cases hs
  case imul =>
    simp only [rb_s0] at hs
    split at hs
    · cases hs; intro H locs ls hP hS hl; exact lv_imul hx hb hdg (k H locs ls hP hS hl)
    · cases hs
  case iand =>
    simp only [rb_s0] at hs
    split at hs
    · cases hs; intro H locs ls hP hS hl; exact lv_iand hx hb hdg (k H locs ls hP hS hl)
    · cases hs
  case ior =>
    simp only [rb_s0] at hs
    split at hs
    · cases hs; intro H locs ls hP hS hl; exact lv_ior hx hb hdg (k H locs ls hP hS hl)
    · cases hs
  case ixor =>
    simp only [rb_s0] at hs
    split at hs
    · cases hs; intro H locs ls hP hS hl; exact lv_ixor hx hb hdg (k H locs ls hP hS hl)
    · cases hs
  case ishl =>
    simp only [rb_s0] at hs
    split at hs
    · cases hs; intro H locs ls hP hS hl; exact lv_ishl hx hb hdg (k H locs ls hP hS hl)
    · cases hs
  case ishr =>
    simp only [rb_s0] at hs
    split at hs
    · cases hs; intro H locs ls hP hS hl; exact lv_ishr hx hb hdg (k H locs ls hP hS hl)
    · cases hs
  case ineg =>
    simp only [rb_s0] at hs
    split at hs
    · cases hs; intro H locs ls hP hS hl; exact lv_ineg hx hb hdg (k H locs ls hP hS hl)
    · cases hs
  case ladd =>
    simp only [rb_s0] at hs
    split at hs
    · cases hs; intro H locs ls hP hS hl; exact lv_ladd hx hb hdg (k H locs ls hP hS hl)
    · cases hs
  case lmul =>
    simp only [rb_s0] at hs
    split at hs
    · cases hs; intro H locs ls hP hS hl; exact lv_lmul hx hb hdg (k H locs ls hP hS hl)
    · cases hs
  case lcmp =>
    simp only [rb_s0] at hs
    split at hs
    · cases hs; intro H locs ls hP hS hl; exact W.lcmp hx hb hdg (k H locs ls hP hS hl)
    · cases hs
  case iushr =>
    simp only [rb_s0] at hs
    split at hs
    · cases hs; intro H locs ls hP hS hl; exact lv_iushr hx hb hdg rfl (k H locs ls hP hS hl)
    · cases hs
  case i2l =>
    simp only [rb_s0] at hs
    split at hs
    · cases hs; intro H locs ls hP hS hl; exact lv_i2l hx hb hdg rfl (k H locs ls hP hS hl)
    · cases hs
  case i2b =>
    simp only [rb_s0] at hs
    split at hs
    · cases hs; intro H locs ls hP hS hl; exact lv_i2b hx hb hdg rfl (k H locs ls hP hS hl)
    · cases hs
  case i2c =>
    simp only [rb_s0] at hs
    split at hs
    · cases hs; intro H locs ls hP hS hl; exact lv_i2c hx hb hdg rfl (k H locs ls hP hS hl)
    · cases hs
  case i2s =>
    simp only [rb_s0] at hs
    split at hs
    · cases hs; intro H locs ls hP hS hl; exact lv_i2s hx hb hdg rfl (k H locs ls hP hS hl)
    · cases hs
  all_goals (first | cases hs | (simp only [rb_s0] at hs; cases hs))
end S0
section S2
variable {X : rb_X} {g : rb_G} {A : Nat → Prop} {o nL d cs ss pc n a b : Nat} {Q : State → Prop} {cc : ByteArray} {rt : Option FieldType} {h : rb_H} {lv : List (Nat × Value)} {st : List Value} {v : Value} {q idx : Nat}
theorem rc_lald_ok (C : rq_Cx X g A o cc nL rt d cs ss) (hdg : decode cc pc = .ok (.laload, 1)) {i : Int32} (hq : rb_ty q = 14) (hi : ¬ rb_oob i (rb_len q)) (k : rq_Ok X g A nL cs ss Q h (pc + 1) lv (.long (rb_hJ h q i.toNatClampNeg) :: st)) : rq_Ok X g A nL cs ss Q h pc lv (.int i :: .ref q :: st) := by
  obtain ⟨p, l, e, R, s, m, args, below, meth, c⟩ := X
  obtain ⟨hx, hb, hml, hr, hown, hts, hlk, hR, hSc, hAn, hAo⟩ := C
  intro H locs ls hP hS hl
  exact va_lald hx hb hSc.1 hP q 4 (rb_W_l g h hq) rfl hi hdg (k H locs ls hP hS hl)
theorem rc_table_ok (C : rq_Cx X g A o cc nL rt d cs ss) {dflt lo hi : Int} {offs : Array Int} (hdg : decode cc pc = .ok (.tableswitch dflt lo hi offs, n)) (hk : rb_k1 o nL pc (.tableswitch dflt lo hi offs, n, a, b, v) = true) {x : Int32} (hs : rb_sw ((List.range offs.size).map fun (j : Nat) => (lo + (j : Int), offs.getD j 0)) dflt x (fun off => rq_Ok X g A nL cs ss Q h ((pc : Int) + off).toNat lv st)) : rq_Ok X g A nL cs ss Q h pc lv (.int x :: st) := by
  obtain ⟨p, l, e, R, s, m, args, below, meth, c⟩ := X
  obtain ⟨hx, hb, hml, hr, hown, hts, hlk, hR, hSc, hAn, hAo⟩ := C
  simp only [rb_k1, Bool.and_eq_true, decide_eq_true_eq, List.all_eq_true] at hk
  obtain ⟨⟨⟨k1, k2⟩, k3⟩, k4⟩ := hk
  have rng : ∀ q ∈ (List.range offs.size).map (fun (j : Nat) => (lo + (j : Int), offs.getD j 0)), ∃ j : Nat, j < offs.size ∧ q = (lo + (j : Int), offs.getD j 0) ∧ (x = Int32.ofInt q.1 ↔ x.toInt = lo + (j : Int)) := by
    intro q hq
    obtain ⟨j, hj, rfl⟩ := List.mem_map.mp hq
    have hj := List.mem_range.mp hj
    exact ⟨j, hj, rfl, rb_key (by omega) (by omega)⟩
  intro H locs ls hP hS hl
  by_cases h1 : x.toInt < lo ∨ hi < x.toInt
  · have key := rb_pick_d hs (fun q hq => by
      obtain ⟨j, hj, rfl, e1⟩ := rng q hq
      rw [e1]
      omega)
    exact lv_tableOut hx hb hdg h1 (by omega) (key H locs ls hP hS hl)
  · have h2 : ¬ x.toInt < lo := fun z => h1 (Or.inl z)
    have h3 : ¬ hi < x.toInt := fun z => h1 (Or.inr z)
    have hj : (x.toInt - lo).toNat < offs.size := by omega
    have key := rb_pick_v (v := offs.getD (x.toInt - lo).toNat 0) hs (fun q hq e0 => by
      obtain ⟨j, hj, rfl, e1⟩ := rng q hq
      have e2 := e1.mp e0
      show offs.getD j 0 = _
      rw [show j = (x.toInt - lo).toNat by omega]) ⟨(lo + ((x.toInt - lo).toNat : Int), offs.getD (x.toInt - lo).toNat 0), List.mem_map.mpr ⟨(x.toInt - lo).toNat, List.mem_range.mpr hj, rfl⟩, (rb_key (by omega) (by omega)).mpr (by omega)⟩
    have he : offs[(x.toInt - lo).toNat]? = some (offs.getD (x.toInt - lo).toNat 0) := by
      rw [Array.getD_eq_getD_getElem?, Array.getElem?_eq_getElem hj]
      rfl
    have hn := k2 (offs.getD (x.toInt - lo).toNat 0) (by
      rw [Array.mem_toList_iff]
      exact Array.mem_of_getElem? he)
    exact lv_tableIn hx hb hdg h2 h3 he (by omega) (key H locs ls hP hS hl)
theorem rc_ialdX_ok (C : rq_Cx X g A o cc nL rt d cs ss) (hdg : decode cc pc = .ok (.iaload, 1)) {i : Int32} (hi : ¬ rb_oob i (rb_xl g)) (k : rq_Ok X g A nL cs ss Q h (pc + 1) lv (.int (rb_xs g i.toNatClampNeg) :: st)) : rq_Ok X g A nL cs ss Q h pc lv (.int i :: .retAddr 300 :: st) := by
  obtain ⟨p, l, e, R, s, m, args, below, meth, c⟩ := X
  obtain ⟨hx, hb, hml, hr, hown, hts, hlk, hR, hSc, hAn, hAo⟩ := C
  intro H locs ls hP hS hl
  obtain ⟨scr, h1, h2, h3, h4, h5⟩ := hSc.2.2.1.2.2.2.2.1.kept ((rc_S (g := g) hAo hS).2.1 _ hSc.2.2.1.2.2.2.2.2.1 hSc.2.2.1.2.2.2.2.2.2)
  have hlt : i.toNatClampNeg < rb_xl g := Nat.not_le.mp fun q => hi (Or.inr q)
  exact W.iald (v := .int (rb_xs g i.toNatClampNeg)) hx hb h1 h2 h3 (by rw [h4]; exact hi) (h5 _ hlt) rfl rfl hdg (k H locs ls hP hS hl)
theorem rc_getf_ok (C : rq_Cx X g A o cc nL rt d cs ss) (hdg : decode cc pc = .ok (.getfield idx, 3)) (hk : rb_fl o idx = some (a, b)) (hq : rb_ty q = a) {w : Value} (hw : rb_fv g h a q b = rb_cv g w) (k : rq_Ok X g A nL cs ss Q h (pc + 3) lv (w :: st)) : rq_Ok X g A nL cs ss Q h pc lv (.ref q :: st) := by
  obtain ⟨p, l, e, R, s, m, args, below, meth, c⟩ := X
  obtain ⟨hx, hb, hml, hr, hown, hts, hlk, hR, hSc, hAn, hAo⟩ := C
  obtain ⟨⟨ha, hb'⟩, hwd⟩ := rb_fl_ok hk
  dsimp only at ha hb' hwd
  intro H locs ls hP hS hl
  refine va_get (D := rb_D g) (cl := rb_cl) (ws := rb_W g h) (C := (rb_cq a).1) (T := (rb_cq a).2.1) (N := (rb_cq a).2.2) (ci := a) hx hb hts (rb_in a ha) hown hSc.1 hP q (rb_W_o g h hq ha) (rb_cl_at a ha) b hb' (hts _ hwd) (fun _ h => h) (v := rb_cv g w) ?_ hdg (k H locs ls hP hS hl)
  rw [← hw]
  exact rb_fs_at g h a q (by rw [rb_nf_N a ha]; exact hb')
theorem rc_last_ok (C : rq_Cx X g A o cc nL rt d cs ss) (hdg : decode cc pc = .ok (.lastore, 1)) {i : Int32} {x : Int64} (hq : rb_ty q = 14) (hi : ¬ rb_oob i (rb_len q)) (k : rq_Ok X g A nL cs ss Q (rb_sJ h q i.toNatClampNeg x) (pc + 1) lv st) : rq_Ok X g A nL cs ss Q h pc lv (.long x :: .int i :: .ref q :: st) := by
  obtain ⟨p, l, e, R, s, m, args, below, meth, c⟩ := X
  obtain ⟨hx, hb, hml, hr, hown, hts, hlk, hR, hSc, hAn, hAo⟩ := C
  intro H locs ls hP hS hl
  refine va_last hx hb hSc.1 hP ⟨(rb_va_D hSc.2.1 h).1, fun k q hq => hAn _ ((rb_va_D hSc.2.1 h).2 k q hq)⟩ hS q 4 (rb_W_l g h hq) rfl hi hdg (fun H1 locs1 hP1 hD1 hS1 => ?_)
  rw [rb_W_sJ g h _ hq] at hP1
  exact k H1 locs1 ls hP1 hS1 hl
theorem rc_alenX_ok (C : rq_Cx X g A o cc nL rt d cs ss) (hdg : decode cc pc = .ok (.arraylength, 1)) (k : rq_Ok X g A nL cs ss Q h (pc + 1) lv (.int (Int32.ofNat (rb_xl g)) :: st)) : rq_Ok X g A nL cs ss Q h pc lv (.retAddr 300 :: st) := by
  obtain ⟨p, l, e, R, s, m, args, below, meth, c⟩ := X
  obtain ⟨hx, hb, hml, hr, hown, hts, hlk, hR, hSc, hAn, hAo⟩ := C
  intro H locs ls hP hS hl
  obtain ⟨scr, h1, h2, h3, h4, h5⟩ := hSc.2.2.1.2.2.2.2.1.kept ((rc_S (g := g) hAo hS).2.1 _ hSc.2.2.1.2.2.2.2.2.1 hSc.2.2.1.2.2.2.2.2.2)
  exact W.alen hx hb h1 h2 (by rw [h4]) rfl rfl hdg (k H locs ls hP hS hl)
end S2
section RUN
variable {p : Program} {l : Launch} {e : Env} {R : Room} {s : State} {m : MethodId} {args : Array Value} {below : List Frame} {meth : Method} {c : Code} {H : Heap} {locs : List Loc} {Q : State → Prop} {g : rb_G} {A : Nat → Prop} {cs ss : Nat}
theorem rc_run_ok {r : Option Value × rb_H} {pc : Nat} {ls : Array Slot} {st0 rest : List Value} {a : Array Value} (hAn : ∀ q, rb_A g q → A q) (hAo : ∀ q, q < s.heap.size → A q → rb_A g q) (hr : va_Run p l e R s m args below meth c H locs cs ss 0 0 (F0 m pc ls st0) rest (rb_Q g r a) (rb_A g)) (hS : va_S A s.heap H locs)
    (kk : ∀ (H1 : Heap) (locs1 : List Loc), va_P (rb_D g) rb_cl (rb_W g r.2) H1 → va_S A s.heap H1 locs1 → W p l e R s m args below meth c H1 locs1 cs ss Q (F0 m (pc + 3) ls ((r.1.map (rb_cv g)).toList ++ rest))) : W p l e R s m args below meth c H locs cs ss Q (F0 m pc ls st0) := by
  intro T hT X
  obtain ⟨v, st₀, t, T', L, h0, X', hL, e1, e2, ⟨⟨hv, hp⟩, hz, hk⟩, st⟩ := hr T hT X
  cases hv
  rw [h0] at hz hk
  obtain ⟨t2, a1, b1⟩ := kk T'.heap (locs ++ L) (by rw [e1]; exact hp)
    ⟨Nat.le_trans hS.1 (by rw [e1]; exact hz), fun q h1 h2 => by rw [e1, hk q (Nat.lt_of_lt_of_le h1 hS.1) (fun z => h2 (hAn q z))]; exact hS.2.1 q h1 h2, fun q hq => by
      rcases List.mem_append.mp hq with h | h
      · exact hS.2.2 q h
      · exact hAn _ (hL q h)⟩ T' rfl X'
  exact ⟨t2, st t2 a1, b1⟩
end RUN
section S3
variable {X : rb_X} {g : rb_G} {A : Nat → Prop} {o nL d cs ss pc n a b : Nat} {Q : State → Prop} {cc : ByteArray} {rt : Option FieldType} {h : rb_H} {lv : List (Nat × Value)} {st : List Value} {v : Value} {q idx : Nat}
theorem rc_callV_ok (C : rq_Cx X g A o cc nL rt d cs ss) (hdg : decode cc pc = .ok (.invokevirtual idx, 3)) {mm : Nat} (hk : rb_lk o idx 0 (mm + 10)) (hm : mm < rb_nM) (hn : (rb_mt mm).2.2.2.2.1 = b) (hs : (rb_mt mm).2.2.2.2.2 ≠ 99) {ow : Value} {rest : List Value} (hst : st.drop b = ow :: rest) (hw : (∃ q, ow = .ref q ∧ rb_ty q = (rb_mt mm).2.2.2.2.2) ∨ ∃ q, ow = .retAddr q ∧ (100 ≤ q ∧ q < 100 + rb_nS) ∧ (rb_mt mm).2.2.2.2.2 = 98) {d' : Nat} {r : Option Value × rb_H} (hd : d' < d ∧ b ≤ st.length ∧ rb_ct rest ≤ 8) (hM : rb_Mt X.2.1 g (rb_mt mm) d' (ow :: (st.take b).reverse) h r)
    (k : rq_Ok X g A nL cs ss Q r.2 (pc + 3) lv (r.1.toList ++ rest)) : rq_Ok X g A nL cs ss Q h pc lv st := by
  obtain ⟨p, l, e, R, s, m, args, below, meth, c⟩ := X
  obtain ⟨hx, hb, hml, hr, hown, hts, hlk, hR, hSc, hAn, hAo⟩ := C
  have ho := rb_mo_all mm hm
  obtain ⟨o1, o2, o3, o4, o5, o6⟩ := id ho
  rw [if_neg hs] at o6
  have hck := List.all_eq_true.mp rb_cls_ck mm (List.mem_range.mpr hm)
  have hck := of_decide_eq_true hck
  have hroom : (rb_rm d').frames + 1 ≤ R.frames ∧ 8 + ((rb_mt mm).2.2.1 + 11) + (rb_rm d').locals ≤ R.locals := by
    obtain ⟨hR1, hR2, hR3, hR4⟩ := hR
    have hd1 := hd.1
    refine ⟨?_, ?_⟩
    · show d' + 1 ≤ R.frames
      omega
    · show 8 + (_ + 11) + 40 * d' ≤ R.locals
      omega
  intro H locs ls hP hS0 hl
  have hS := rc_S (g := g) hAo hS0
  have hrecv : ∃ b' : Nat, rb_cv g ow = .ref b' ∧ ∃ cellB : Cell, H[b']? = some cellB ∧ cellB.vm.isStatics = false ∧ s.vm.findClass (rb_mt mm).1.cls = some cellB.cls := by
    rcases hw with ⟨q, rfl, hq⟩ | ⟨q, rfl, hq, h98⟩
    · by_cases h10 : rb_ty q < 10
      · obtain ⟨cell, c1, c2, c3⟩ := va_recv hSc.1 hP (rb_cl_at _ h10) (rb_W_o g h (i := q) rfl h10)
        exact ⟨_, rfl, cell, c1, c2, by rw [← hck (by rw [← hq]; exact h10), ← hq]; exact c3⟩
      · exfalso
        have : ∀ m, m < rb_nM → (rb_mt m).2.2.2.2.2 < 10 ∨ 98 ≤ (rb_mt m).2.2.2.2.2 := by decide +kernel
        rcases this mm hm with z | z
        · omega
        · have ty : ∀ i, rb_ty i < 98 ∨ rb_ty i = 99 := by
            intro i
            unfold rb_ty
            split
            · have key : ∀ i, i < rb_base → rb_tyL.getD i 99 < 98 := by decide +kernel
              rename_i hi
              exact Or.inl (key i hi)
            · split
              · split <;> exact Or.inl (by decide)
              · exact Or.inr rfl
          rcases ty q with y | y
          · omega
          · exact hs (by rw [← hq]; exact y)
    · obtain ⟨cell, c1, c2, c3⟩ := vk_recv hSc.2.2.1.2.2.1 (i := q - 100) (by omega) hS
      have : (rb_mt mm).1.cls = "java/lang/String" := by
        have key : ∀ m, m < rb_nM → (rb_mt m).2.2.2.2.2 = 98 → (rb_mt m).1.cls = "java/lang/String" := by decide +kernel
        exact key mm hm h98
      refine ⟨_, rfl, cell, ?_, c2, by rw [this]; exact c3⟩
      rw [show 100 + (q - 100) = q by omega] at c1
      exact c1
  obtain ⟨b', hb', hcell⟩ := hrecv
  have hstack : st.map (rb_cv g) = (((st.take b).reverse).map (rb_cv g)).reverse ++ .ref b' :: rest.map (rb_cv g) := by
    rw [List.map_reverse, List.reverse_reverse, ← hb', ← List.map_cons, ← hst, ← List.map_append, List.take_append_drop]
  have hlen : (((st.take b).reverse).map (rb_cv g)).length = b := by
    rw [List.length_map, List.length_reverse, List.length_take]
    omega
  have hpre : PreV s H (rb_mt mm).1.cls b' (rb_Pc g (ow :: (st.take b).reverse) h) (((st.take b).reverse).map (rb_cv g)) := ⟨rb_blind g _ h, hcell, fun U hU hW => ⟨by rw [List.map_cons, hb'], by rw [hU]; exact hP, hSc.go hW hU hS⟩⟩
  have kk : ∀ (H1 : Heap) (locs1 : List Loc), va_P (rb_D g) rb_cl (rb_W g r.2) H1 → va_S A s.heap H1 locs1 → W p l e R s m args below meth c H1 locs1 cs ss Q (F0 m (pc + 3) ls ((r.1.map (rb_cv g)).toList ++ rest.map (rb_cv g))) := fun H1 locs1 hP1 hS1 => by
    rw [← rb_st_map]
    exact k H1 locs1 ls hP1 hS1 hl
  have h0 : cs + 0 ≤ R.cells ∧ ss + 0 ≤ R.slots := ⟨hR.2.2.1, hR.2.2.2⟩
  have hyo : rb_yo (mm + 10) = (rb_mt mm).1 := by unfold rb_yo; rw [if_neg (by omega), Nat.add_sub_cancel]
  unfold rb_lk at hk
  rw [hyo, if_pos rfl] at hk
  exact rc_run_ok (r := r) hAn hAo (va_runV (Ts := rb_tbl) (own := rb_on o) (C := (rb_mt mm).1.cls) ⟨hx, hb, hml, hown, hts⟩ hM ⟨callB_of b hts (rb_good _ ho) rfl rfl rfl (hts _ o4) (hts _ hk) ⟨o2.1, o2.2.1, by rw [o2.2.2, hn]⟩ hroom, hts _ o6.1, hts _ o6.2⟩ hpre rfl hlen hl.1 hstack (lv_room (by rw [rb_ct_map]; exact hd.2.2)) hdg h0) hS0 kk
theorem rc_callS_ok (C : rq_Cx X g A o cc nL rt d cs ss) (hdg : decode cc pc = .ok (.invokestatic idx, 3)) {kind mm : Nat} (hk : rb_lk o idx kind (mm + 10)) (hm : mm < rb_nM) (hn : (rb_mt mm).2.2.2.2.1 = b) (hs : (rb_mt mm).2.2.2.2.2 = 99) {d' : Nat} {r : Option Value × rb_H} (hd : d' < d ∧ b ≤ st.length ∧ rb_ct (st.drop b) ≤ 8) (hM : rb_Mt X.2.1 g (rb_mt mm) d' (st.take b).reverse h r)
    (k : rq_Ok X g A nL cs ss Q r.2 (pc + 3) lv (r.1.toList ++ st.drop b)) : rq_Ok X g A nL cs ss Q h pc lv st := by
  obtain ⟨p, l, e, R, s, m, args, below, meth, c⟩ := X
  obtain ⟨hx, hb, hml, hr, hown, hts, hlk, hR, hSc, hAn, hAo⟩ := C
  have ho := rb_mo_all mm hm
  obtain ⟨o1, o2, o3, o4, o5, o6⟩ := id ho
  rw [if_pos hs] at o6
  have hroom : (rb_rm d').frames + 1 ≤ R.frames ∧ 8 + ((rb_mt mm).2.2.1 + 11) + (rb_rm d').locals ≤ R.locals := by
    obtain ⟨hR1, hR2, hR3, hR4⟩ := hR
    have hd1 := hd.1
    refine ⟨?_, ?_⟩
    · show d' + 1 ≤ R.frames
      omega
    · show 8 + (_ + 11) + 40 * d' ≤ R.locals
      omega
  intro H locs ls hP hS0 hl
  have hS := rc_S (g := g) hAo hS0
  have hstack : st.map (rb_cv g) = (((st.take b).reverse).map (rb_cv g)).reverse ++ (st.drop b).map (rb_cv g) := by
    rw [List.map_reverse, List.reverse_reverse, ← List.map_append, List.take_append_drop]
  have hlen : (((st.take b).reverse).map (rb_cv g)).length = b := by
    rw [List.length_map, List.length_reverse, List.length_take]
    omega
  have hpre : PreS s H (rb_Pc g (st.take b).reverse h) (((st.take b).reverse).map (rb_cv g)) := ⟨rb_blind g _ h, fun U hU hW => ⟨rfl, by rw [hU]; exact hP, hSc.go hW hU hS⟩⟩
  have kk : ∀ (H1 : Heap) (locs1 : List Loc), va_P (rb_D g) rb_cl (rb_W g r.2) H1 → va_S A s.heap H1 locs1 → W p l e R s m args below meth c H1 locs1 cs ss Q (F0 m (pc + 3) ls ((r.1.map (rb_cv g)).toList ++ (st.drop b).map (rb_cv g))) := fun H1 locs1 hP1 hS1 => by
    rw [← rb_st_map]
    exact k H1 locs1 ls hP1 hS1 hl
  have h0 : cs + 0 ≤ R.cells ∧ ss + 0 ≤ R.slots := ⟨hR.2.2.1, hR.2.2.2⟩
  have hyo : rb_yo (mm + 10) = (rb_mt mm).1 := by unfold rb_yo; rw [if_neg (by omega), Nat.add_sub_cancel]
  unfold rb_lk at hk
  rw [hyo] at hk
  by_cases hk0 : kind = 0
  · rw [if_pos hk0] at hk
    refine rc_run_ok (r := r) hAn hAo (va_runS (Ts := rb_tbl) (own := rb_on o) ⟨hx, hb, hml, hown, hts⟩ hM ⟨callB_of b hts (rb_good _ ho) rfl rfl rfl (hts _ o4) (hts _ hk) ⟨o2.1, o2.2.1, by rw [o2.2.2, hn]⟩ hroom, hts _ o6⟩ hpre rfl hlen hl.1 hstack (lv_room (by rw [rb_ct_map]; exact hd.2.2)) hdg h0) hS0 kk
  · rw [if_neg hk0] at hk
    obtain ⟨host, hk⟩ := hk
    refine rc_run_ok (r := r) hAn hAo (va_runSN (Ts := rb_tbl) (own := rb_on o) (host := host) ⟨hx, hb, hml, hown, hts⟩ hM ⟨va_cnB b hts (rb_good _ ho) rfl rfl rfl (hSc.2.2.2.1 _ _ _ _ hk) (hts _ o4) ⟨o2.1, o2.2.1, by rw [o2.2.2, hn]⟩ hroom, hts _ o6, trivial⟩ hpre rfl hlen hl.1 hstack (lv_room (by rw [rb_ct_map]; exact hd.2.2)) hdg h0) hS0 kk
end S3
/-- what a block of the law asks -/
def rc_wp (l : Launch) (g : rb_G) (d : Nat) (K : rb_H → Nat → List (Nat × Value) → List Value → Prop) : List rb_I → Nat → List (Nat × Value) → List Value → rb_H → Prop
  | [], pc, lv, st, h => K h pc lv st
  | (i, n, a, b, v) :: is, pc, lv, st, h => match i with
    | .goto _ => K h a lv st
    | .if_icmp c _ => match st with
      | .int y :: .int x :: st => (rb_cc c x y → K h a lv st) ∧ (¬ rb_cc c x y → rc_wp l g d K is (pc + n) lv st h)
      | _ => False
    | .ifCond c _ => match st with
      | .int x :: st => (rb_cc c x 0 → K h a lv st) ∧ (¬ rb_cc c x 0 → rc_wp l g d K is (pc + n) lv st h)
      | _ => False
    | .tableswitch dflt lo _ offs => match st with
      | .int x :: st => rb_sw ((List.range offs.size).map fun (j : Nat) => (lo + (j : Int), offs.getD j 0)) dflt x (fun off => K h ((pc : Int) + off).toNat lv st)
      | _ => False
    | .arraylength => match st with
      | .retAddr k :: st => k = 300 ∧ rc_wp l g d K is (pc + n) lv (.int (Int32.ofNat (rb_xl g)) :: st) h
      | _ => False
    | .iaload => match st with
      | .int i :: .retAddr k :: st => (k = 300 ∧ ¬ rb_oob i (rb_xl g)) ∧ rc_wp l g d K is (pc + n) lv (.int (rb_xs g i.toNatClampNeg) :: st) h
      | _ => False
    | .laload => match st with
      | .int i :: .ref o :: st => (rb_ty o = 14 ∧ ¬ rb_oob i (rb_len o)) ∧ rc_wp l g d K is (pc + n) lv (.long (rb_hJ h o i.toNatClampNeg) :: st) h
      | _ => False
    | .lastore => match st with
      | .long x :: .int i :: .ref o :: st => (rb_ty o = 14 ∧ ¬ rb_oob i (rb_len o)) ∧ rc_wp l g d K is (pc + n) lv st (rb_sJ h o i.toNatClampNeg x)
      | _ => False
    | .getfield _ => match st with
      | .ref o :: st => rb_ty o = a ∧ (match rb_fk a b with
        | 0 => rc_wp l g d K is (pc + n) lv (.int (rb_hF h o b) :: st) h
        | 1 => rc_wp l g d K is (pc + n) lv (.ref (rb_sr a o b) :: st) h
        | _ => False)
      | _ => False
    | .invokestatic _ => 10 ≤ a ∧ ∃ (d' : Nat) (v : Option Value) (h' : rb_H), (d' < d ∧ b ≤ st.length ∧ rb_ct (st.drop b) ≤ 8) ∧ rb_Mt l g (rb_mt (a - 10)) d' (st.take b).reverse h (v, h') ∧ rc_wp l g d K is (pc + n) lv (v.toList ++ st.drop b) h'
    | .invokevirtual _ => match st.drop b with
      | .ref o :: rest => rb_ty o = (rb_mt (a - 10)).2.2.2.2.2 ∧ ∃ (d' : Nat) (v : Option Value) (h' : rb_H), (d' < d ∧ b ≤ st.length ∧ rb_ct rest ≤ 8) ∧ rb_Mt l g (rb_mt (a - 10)) d' (.ref o :: (st.take b).reverse) h (v, h') ∧ rc_wp l g d K is (pc + n) lv (v.toList ++ rest) h'
      | _ => False
    | i => match rb_s0 i v lv st with
      | some q => rc_wp l g d K is (pc + n) q.1 q.2 h
      | none => False
section S4
variable {X : rb_X} {g : rb_G} {A : Nat → Prop} {o nL d cs ss : Nat} {Q : State → Prop} {cc : ByteArray} {rt : Option FieldType} 
set_option maxHeartbeats 4000000 in
set_option maxRecDepth 100000 in
/-- a block: what it asks is enough -/
theorem rc_sound (C : rq_Cx X g A o cc nL rt d cs ss) : ∀ (is : List rb_I) (pc : Nat) (lv : List (Nat × Value)) (st : List Value) (h : rb_H), rb_kb o cc nL pc is = true → rc_wp X.2.1 g d (rq_Ok X g A nL cs ss Q) is pc lv st h → rq_Ok X g A nL cs ss Q h pc lv st := by
  intro is
  induction is with
  | nil => intro pc lv st h _ hw; exact hw
  | cons x is ih =>
    obtain ⟨i, n, a, b, v⟩ := x
    intro pc lv st h hkb hw
    unfold rb_kb at hkb
    simp only [Bool.and_eq_true, decide_eq_true_eq] at hkb
    obtain ⟨⟨⟨hdg, hln⟩, hk⟩, hrest⟩ := hkb
    have fin : ∀ (hs : rb_sws i = false) {q : List (Nat × Value) × List Value}, rb_s0 i v lv st = some q → rc_wp X.2.1 g d (rq_Ok X g A nL cs ss Q) is (pc + n) q.1 q.2 h → rq_Ok X g A nL cs ss Q h pc lv st := by
      intro hs q h1 h2
      rw [hs, Bool.false_or] at hln
      exact rc_s0_ok C hdg (of_decide_eq_true hln) hk h1 (ih _ _ _ _ hrest h2)
    have dfl : ∀ (hs : rb_sws i = false), (match rb_s0 i v lv st with | some q => rc_wp X.2.1 g d (rq_Ok X g A nL cs ss Q) is (pc + n) q.1 q.2 h | none => False) → rq_Ok X g A nL cs ss Q h pc lv st := by
      intro hs hq
      split at hq
      · rename_i q hq1; exact fin hs hq1 hq
      · exact hq.elim
    cases i
    case goto off =>
      have e := of_decide_eq_true hk
      cases of_decide_eq_true hln
      have hw : rq_Ok X g A nL cs ss Q h a lv st := hw
      obtain ⟨p, l, e0, R, s, m, args, below, meth, c⟩ := X
      obtain ⟨hx, hb, hml, hr, hown, hts, hlk, hR, hSc, hAn, hAo⟩ := C
      intro H locs ls hP hS hl
      exact lv_goto hx hb hdg e (hw H locs ls hP hS hl)
    case if_icmp cnd off =>
      have e := of_decide_eq_true hk
      cases of_decide_eq_true hln
      simp only [rc_wp] at hw
      split at hw
      · rename_i y x st'
        have k1 := hw.1
        have k2 := fun z => ih _ _ _ _ hrest (hw.2 z)
        obtain ⟨p, l, e0, R, s, m, args, below, meth, c⟩ := X
        obtain ⟨hx, hb, hml, hr, hown, hts, hlk, hR, hSc, hAn, hAo⟩ := C
        intro H locs ls hP hS hl
        cases cnd
        · exact lv_icmp_eq hx hb hdg e (fun z => k1 z H locs ls hP hS hl) (fun z => k2 z H locs ls hP hS hl)
        · exact lv_icmp_ne hx hb hdg e (fun z => k1 z H locs ls hP hS hl) (fun z => k2 (fun w => w z) H locs ls hP hS hl)
        · exact lv_icmp_lt hx hb hdg e (fun z => k1 z H locs ls hP hS hl) (fun z => k2 z H locs ls hP hS hl)
        · exact lv_icmp_ge hx hb hdg e (fun z => k1 z H locs ls hP hS hl) (fun z => k2 z H locs ls hP hS hl)
        · exact lv_icmp_gt hx hb hdg e (fun z => k1 z H locs ls hP hS hl) (fun z => k2 z H locs ls hP hS hl)
        · exact lv_icmp_le hx hb hdg e (fun z => k1 z H locs ls hP hS hl) (fun z => k2 z H locs ls hP hS hl)
      · exact hw.elim
    case ifCond cnd off =>
      have e := of_decide_eq_true hk
      cases of_decide_eq_true hln
      simp only [rc_wp] at hw
      split at hw
      · rename_i x st'
        have k1 := hw.1
        have k2 := fun z => ih _ _ _ _ hrest (hw.2 z)
        obtain ⟨p, l, e0, R, s, m, args, below, meth, c⟩ := X
        obtain ⟨hx, hb, hml, hr, hown, hts, hlk, hR, hSc, hAn, hAo⟩ := C
        intro H locs ls hP hS hl
        cases cnd
        · exact lv_if_eq hx hb hdg e (fun z => k1 z H locs ls hP hS hl) (fun z => k2 z H locs ls hP hS hl)
        · exact lv_if_ne hx hb hdg e (fun z => k1 z H locs ls hP hS hl) (fun z => k2 (fun w => w z) H locs ls hP hS hl)
        · exact lv_if_lt hx hb hdg e (fun z => k1 z H locs ls hP hS hl) (fun z => k2 z H locs ls hP hS hl)
        · exact lv_if_ge hx hb hdg e (fun z => k1 z H locs ls hP hS hl) (fun z => k2 z H locs ls hP hS hl)
        · exact lv_if_gt hx hb hdg e (fun z => k1 z H locs ls hP hS hl) (fun z => k2 z H locs ls hP hS hl)
        · exact lv_if_le hx hb hdg e (fun z => k1 z H locs ls hP hS hl) (fun z => k2 z H locs ls hP hS hl)
      · exact hw.elim
    case tableswitch dflt lo hi offs =>
      simp only [rc_wp] at hw
      split at hw
      · exact rc_table_ok C hdg hk hw
      · exact hw.elim
    case getfield k =>
      cases of_decide_eq_true hln
      have hk := (Bool.or_eq_true _ _).mp hk
      simp only [rc_wp] at hw
      split at hw
      · rename_i q st'
        obtain ⟨hq, hw⟩ := hw
        rcases hk with hk | hk
        · have hk := of_decide_eq_true hk
          split at hw
          · rename_i hf
            exact rc_getf_ok C hdg hk hq (w := .int (rb_hF h q b)) (by unfold rb_fv; rw [hf]; rfl) (ih _ _ _ _ hrest hw)
          · rename_i hf
            exact rc_getf_ok C hdg hk hq (w := .ref (rb_sr a q b)) (by unfold rb_fv; rw [hf]; rfl) (ih _ _ _ _ hrest hw)
          · exact hw.elim
        · obtain ⟨-, h2, -⟩ := of_decide_eq_true hk
          exfalso
          dsimp only at h2
          rw [h2] at hq
          have ty : ∀ i, rb_ty i ≠ 20 := by
            intro i
            unfold rb_ty
            split
            · have key : ∀ i, i < rb_base → rb_tyL.getD i 99 ≠ 20 := by decide +kernel
              rename_i hi
              exact key i hi
            · split
              · split <;> decide
              · decide
          exact ty _ hq
      · exact hw.elim
    case arraylength =>
      cases of_decide_eq_true hln
      simp only [rc_wp] at hw
      split at hw
      · obtain ⟨e1, hw⟩ := hw
        subst e1
        exact rc_alenX_ok C hdg (ih _ _ _ _ hrest hw)
      · exact hw.elim
    case iaload =>
      cases of_decide_eq_true hln
      simp only [rc_wp] at hw
      split at hw
      · obtain ⟨⟨e1, hi⟩, hw⟩ := hw
        subst e1
        exact rc_ialdX_ok C hdg hi (ih _ _ _ _ hrest hw)
      · exact hw.elim
    case laload =>
      cases of_decide_eq_true hln
      simp only [rc_wp] at hw
      split at hw
      · exact rc_lald_ok C hdg hw.1.1 hw.1.2 (ih _ _ _ _ hrest hw.2)
      · exact hw.elim
    case lastore =>
      cases of_decide_eq_true hln
      simp only [rc_wp] at hw
      split at hw
      · exact rc_last_ok C hdg hw.1.1 hw.1.2 (ih _ _ _ _ hrest hw.2)
      · exact hw.elim
    case invokestatic k =>
      cases of_decide_eq_true hln
      simp only [rb_k1] at hk
      split at hk
      · rename_i kind mm hml
        have hlk := rb_ml_ok hml
        dsimp only at hlk
        simp only [Bool.and_eq_true, decide_eq_true_eq] at hk
        obtain ⟨hk1, hk2⟩ := hk
        subst hk1
        simp only [rc_wp] at hw
        by_cases h10 : mm < 10
        · rw [if_pos h10, decide_eq_true_eq] at hk2
          exact absurd hw.1 (by omega)
        · rw [if_neg h10] at hk2
          simp only [Bool.and_eq_true, decide_eq_true_eq] at hk2
          obtain ⟨-, d', v', h', hd, hM, hw⟩ := hw
          have e10 : mm - 10 + 10 = mm := by omega
          rw [← e10] at hlk
          exact rc_callS_ok C hdg hlk hk2.1.1 hk2.1.2 hk2.2 hd hM (ih _ _ _ _ hrest hw)
      · cases hk
    case invokevirtual k =>
      cases of_decide_eq_true hln
      simp only [rb_k1] at hk
      split at hk
      · rename_i kind mm hml
        have hlk := rb_ml_ok hml
        dsimp only at hlk
        simp only [Bool.and_eq_true, decide_eq_true_eq] at hk
        obtain ⟨⟨⟨⟨⟨hk1, hk2⟩, hk3⟩, hk4⟩, hk5⟩, hk6⟩ := hk
        subst hk1
        subst hk2
        have e10 : mm - 10 + 10 = mm := by omega
        rw [← e10] at hlk
        simp only [rc_wp] at hw
        split at hw
        · rename_i q rest hst
          obtain ⟨hq, d', v', h', hd, hM, hw⟩ := hw
          exact rc_callV_ok C hdg hlk hk4 hk5 hk6 hst (Or.inl ⟨_, rfl, hq⟩) hd hM (ih _ _ _ _ hrest hw)
        · exact hw.elim
      · cases hk
    case lookupswitch d p => simp only [rc_wp, rb_s0] at hw
    all_goals exact dfl rfl hw
end S4
