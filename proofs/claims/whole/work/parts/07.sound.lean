/-! a block that asks so is walked so -/
section WS
variable {p : Program} {l : Launch} {e : Env} {R : Room} {s : State} {m : MethodId} {args : Array Value} {below : List Frame} {meth : Method} {c : Code} {H : Heap} {locs : List Loc} {cells slots : Nat} {Q : State → Prop} {cc : ByteArray} {pc : Nat} {ls : Array Slot} {rest : List Value}
theorem rb_ldcwS (hexec : p.tables.exec = Jvm.exec) (hb : c.code = cc) {own tx : String} {index q : Nat} (hown : s.vm.findClass own = some m.cls) (hZ : vk_R own index tx q s) (hdg : decode cc pc = .ok (.ldc_w index, 3))
    (k : W p l e R s m args below meth c H locs cells slots Q (F0 m (pc + 3) ls (.ref q :: rest))) : W p l e R s m args below meth c H locs cells slots Q (F0 m pc ls rest) := by
  intro T hT X
  obtain ⟨t, a1, b1⟩ := k T hT X
  exact ⟨t, X.ldcStringW hexec hown (text := tx) (a := q) hZ.1 hZ.2 (g := F0 m pc ls rest) rfl (by rw [hb]; exact hdg) t a1, b1⟩
end WS
section S0
variable {X : rb_X} {g : rb_G} {o nL d pc n a b : Nat} {cc : ByteArray} {rt : Option FieldType} {res : Option Value × rb_H} {h : rb_H} {lv : List (Nat × Value)} {st : List Value} {v : Value} {i : Instr}
set_option maxRecDepth 100000 in
set_option maxHeartbeats 4000000 in
theorem rb_s0_ok (C : rb_Cx X g o cc nL rt d) (hdg : decode cc pc = .ok (i, n)) (hn : n = rb_ln i) (hk : rb_k1 o nL pc (i, n, a, b, v) = true) {q : List (Nat × Value) × List Value} (hs : rb_s0 i v lv st = some q) (k : rb_Ok X g nL res h (pc + n) q.1 q.2) : rb_Ok X g nL res h pc lv st := by
  obtain ⟨p, l, e, R, s, m, args, below, meth, c⟩ := X
  obtain ⟨hx, hb, hml, hr, hown, hts, hlk, hR, hSc⟩ := C
  subst hn
  cases i
  case iconst z =>
    cases hs
    have hv := of_decide_eq_true hk
    dsimp only at hv
    subst hv
    intro H locs ls hP hS hl
    exact lv_iconst hx hb hdg rfl (k H locs ls hP hS hl)
  case bipush z =>
    cases hs
    have hv := of_decide_eq_true hk
    dsimp only at hv
    subst hv
    intro H locs ls hP hS hl
    exact lv_bipush hx hb hdg rfl (k H locs ls hP hS hl)
  case sipush z =>
    cases hs
    have hv := of_decide_eq_true hk
    dsimp only at hv
    subst hv
    intro H locs ls hP hS hl
    exact lv_sipush hx hb hdg rfl (k H locs ls hP hS hl)
  case lconst z =>
    cases hs
    have hv := of_decide_eq_true hk
    dsimp only at hv
    subst hv
    intro H locs ls hP hS hl
    exact lv_lconst hx hb hdg rfl (k H locs ls hP hS hl)
  case ldc z =>
    cases hs
    have hk := (Bool.and_eq_true _ _).mp hk
    have hw := rb_cs_ok (of_decide_eq_true hk.1)
    cases v with
    | int y => intro H locs ls hP hS hl; exact lv_ldc hx hb hown (hts _ hw) hdg (k H locs ls hP hS hl)
    | long y => cases hk.2
    | retAddr y =>
      obtain ⟨h1, h2, h3, h4⟩ := hw
      have h5 := hSc.2.2.2.2 (y - 100) (by omega)
      rw [h3, h4, show 100 + (y - 100) = y by omega] at h5
      intro H locs ls hP hS hl
      exact va_ldcS hx hb hown h5 hdg (k H locs ls hP hS hl)
    | _ => exact hw.elim
  case ldc_w z =>
    cases hs
    have hk := (Bool.and_eq_true _ _).mp hk
    have hw := rb_cs_ok (of_decide_eq_true hk.1)
    cases v with
    | int y => intro H locs ls hP hS hl; exact lv_ldcw hx hb hown (hts _ hw) hdg (k H locs ls hP hS hl)
    | long y => cases hk.2
    | retAddr y =>
      obtain ⟨h1, h2, h3, h4⟩ := hw
      have h5 := hSc.2.2.2.2 (y - 100) (by omega)
      rw [h3, h4, show 100 + (y - 100) = y by omega] at h5
      intro H locs ls hP hS hl
      exact rb_ldcwS hx hb hown h5 hdg (k H locs ls hP hS hl)
    | _ => exact hw.elim
  case ldc2_w z =>
    cases hs
    have hk := (Bool.and_eq_true _ _).mp hk
    have hw := rb_cs_ok (of_decide_eq_true hk.1)
    cases v with
    | long y => intro H locs ls hP hS hl; exact lv_ldc2 hx hb hown (hts _ hw) hdg (k H locs ls hP hS hl)
    | _ => first | (cases hk.2; done) | exact hw.elim
  case iload z =>
    simp only [rb_s0] at hs
    split at hs
    · rename_i x hg; cases hs; intro H locs ls hP hS hl; exact lv_iload hx hb hdg (hl.2.2 _ (rb_lg_mem (g := g) hg)) (k H locs ls hP hS hl)
    · cases hs
  case iload_n z =>
    simp only [rb_s0] at hs
    split at hs
    · rename_i x hg; cases hs; intro H locs ls hP hS hl; exact lv_iload_n hx hb hdg rfl (hl.2.2 _ (rb_lg_mem (g := g) hg)) (k H locs ls hP hS hl)
    · cases hs
  case lload z =>
    simp only [rb_s0] at hs
    split at hs
    · rename_i x hg; cases hs; intro H locs ls hP hS hl; exact lv_lload hx hb hdg (hl.2.2 _ (rb_lg_mem (g := g) hg)) (k H locs ls hP hS hl)
    · cases hs
  case lload_n z =>
    simp only [rb_s0] at hs
    split at hs
    · rename_i x hg; cases hs; intro H locs ls hP hS hl; exact lv_lload_n hx hb hdg rfl (hl.2.2 _ (rb_lg_mem (g := g) hg)) (k H locs ls hP hS hl)
    · cases hs
  case aload z =>
    simp only [rb_s0] at hs
    split at hs
    · rename_i x hg; cases hs; intro H locs ls hP hS hl; exact lv_aload hx hb hdg (hl.2.2 _ (rb_lg_mem (g := g) hg)) (k H locs ls hP hS hl)
    · rename_i x hg; cases hs; intro H locs ls hP hS hl; exact lv_aload hx hb hdg (hl.2.2 _ (rb_lg_mem (g := g) hg)) (k H locs ls hP hS hl)
    · cases hs
  case aload_n z =>
    simp only [rb_s0] at hs
    split at hs
    · rename_i x hg; cases hs; intro H locs ls hP hS hl; exact lv_aload_n hx hb hdg rfl (hl.2.2 _ (rb_lg_mem (g := g) hg)) (k H locs ls hP hS hl)
    · rename_i x hg; cases hs; intro H locs ls hP hS hl; exact lv_aload_n hx hb hdg rfl (hl.2.2 _ (rb_lg_mem (g := g) hg)) (k H locs ls hP hS hl)
    · cases hs
  case istore z =>
    simp only [rb_s0] at hs
    split at hs
    · rename_i x; cases hs; intro H locs ls hP hS hl; exact lv_istore hx hb hdg hl (of_decide_eq_true hk) (rb_ls1_c g _ (.int _) lv) (fun ls hl => k H locs ls hP hS hl)
    · cases hs
  case istore_n z =>
    simp only [rb_s0] at hs
    split at hs
    · rename_i x; cases hs; intro H locs ls hP hS hl; exact lv_istore_n hx hb hdg rfl hl (of_decide_eq_true hk) (rb_ls1_c g _ (.int _) lv) (fun ls hl => k H locs ls hP hS hl)
    · cases hs
  case lstore z =>
    simp only [rb_s0] at hs
    split at hs
    · rename_i x; cases hs; intro H locs ls hP hS hl; exact lv_lstore hx hb hdg hl (of_decide_eq_true hk) (rb_ls2_c g _ (.long _) lv) (fun ls hl => k H locs ls hP hS hl)
    · cases hs
  case lstore_n z =>
    simp only [rb_s0] at hs
    split at hs
    · rename_i x; cases hs; intro H locs ls hP hS hl; exact lv_lstore_n hx hb hdg rfl hl (of_decide_eq_true hk) (rb_ls2_c g _ (.long _) lv) (fun ls hl => k H locs ls hP hS hl)
    · cases hs
  case astore z =>
    simp only [rb_s0] at hs
    split at hs
    · rename_i x; cases hs; intro H locs ls hP hS hl; exact lv_astore hx hb hdg hl (of_decide_eq_true hk) (rb_ls1_c g _ (.ref _) lv) (fun ls hl => k H locs ls hP hS hl)
    · rename_i x; cases hs; intro H locs ls hP hS hl; exact lv_astore hx hb hdg hl (of_decide_eq_true hk) (rb_ls1_c g _ (.retAddr _) lv) (fun ls hl => k H locs ls hP hS hl)
    · cases hs
  case astore_n z =>
    simp only [rb_s0] at hs
    split at hs
    · rename_i x; cases hs; intro H locs ls hP hS hl; exact lv_astore_n hx hb hdg rfl hl (of_decide_eq_true hk) (rb_ls1_c g _ (.ref _) lv) (fun ls hl => k H locs ls hP hS hl)
    · rename_i x; cases hs; intro H locs ls hP hS hl; exact lv_astore_n hx hb hdg rfl hl (of_decide_eq_true hk) (rb_ls1_c g _ (.retAddr _) lv) (fun ls hl => k H locs ls hP hS hl)
    · cases hs
  case iinc z w =>
    simp only [rb_s0] at hs
    split at hs
    · rename_i x hg
      split at hs
      · rename_i y
        cases hs
        have hk := (Bool.and_eq_true _ _).mp hk
        have hv := of_decide_eq_true hk.1
        dsimp only at hv
        cases hv
        obtain ⟨j, hj⟩ := List.getElem?_of_mem (rb_lg_mem (g := g) hg)
        intro H locs ls hP hS hl
        exact lv_iinc hx hb hdg hl hj rfl (of_decide_eq_true hk.2) (rb_ls1_c g _ (.int _) lv) (fun ls hl => k H locs ls hP hS hl)
      · cases hs
    · cases hs
  case pop =>
    simp only [rb_s0] at hs
    split at hs
    · cases hs; intro H locs ls hP hS hl; exact lv_pop hx hb hdg rfl (k H locs ls hP hS hl)
    · cases hs; intro H locs ls hP hS hl; exact lv_pop hx hb hdg rfl (k H locs ls hP hS hl)
    · cases hs
  case dup =>
    simp only [rb_s0] at hs
    split at hs
    · cases hs; intro H locs ls hP hS hl; exact lv_dup hx hb hdg rfl (k H locs ls hP hS hl)
    · cases hs; intro H locs ls hP hS hl; exact lv_dup hx hb hdg rfl (k H locs ls hP hS hl)
    · cases hs
  case dup_x1 =>
    simp only [rb_s0] at hs
    split at hs
    · cases hs; intro H locs ls hP hS hl; exact lv_dup_x1 hx hb hdg rfl rfl (k H locs ls hP hS hl)
    · cases hs
  case dup2 =>
    simp only [rb_s0] at hs
    split at hs
    · cases hs; intro H locs ls hP hS hl; exact lv_dup2_11 hx hb hdg rfl rfl (k H locs ls hP hS hl)
    · cases hs
  case iadd =>
    simp only [rb_s0] at hs
    split at hs
    · cases hs; intro H locs ls hP hS hl; exact lv_iadd hx hb hdg (k H locs ls hP hS hl)
    · cases hs
  case isub =>
    simp only [rb_s0] at hs
    split at hs
    · cases hs; intro H locs ls hP hS hl; exact lv_isub hx hb hdg (k H locs ls hP hS hl)
    · cases hs
  case imul =>
    simp only [rb_s0] at hs
    split at hs
    · cases hs; intro H locs ls hP hS hl; exact lv_imul hx hb hdg (k H locs ls hP hS hl)
    · cases hs
  case iand =>
    simp only [rb_s0] at hs
    split at hs
    · cases hs; intro H locs ls hP hS hl; exact lv_iand hx hb hdg (k H locs ls hP hS hl)
    · cases hs
  case ior =>
    simp only [rb_s0] at hs
    split at hs
    · cases hs; intro H locs ls hP hS hl; exact lv_ior hx hb hdg (k H locs ls hP hS hl)
    · cases hs
  case ixor =>
    simp only [rb_s0] at hs
    split at hs
    · cases hs; intro H locs ls hP hS hl; exact lv_ixor hx hb hdg (k H locs ls hP hS hl)
    · cases hs
  case ishl =>
    simp only [rb_s0] at hs
    split at hs
    · cases hs; intro H locs ls hP hS hl; exact lv_ishl hx hb hdg (k H locs ls hP hS hl)
    · cases hs
  case ishr =>
    simp only [rb_s0] at hs
    split at hs
    · cases hs; intro H locs ls hP hS hl; exact lv_ishr hx hb hdg (k H locs ls hP hS hl)
    · cases hs
  case ineg =>
    simp only [rb_s0] at hs
    split at hs
    · cases hs; intro H locs ls hP hS hl; exact lv_ineg hx hb hdg (k H locs ls hP hS hl)
    · cases hs
  case ladd =>
    simp only [rb_s0] at hs
    split at hs
    · cases hs; intro H locs ls hP hS hl; exact lv_ladd hx hb hdg (k H locs ls hP hS hl)
    · cases hs
  case lmul =>
    simp only [rb_s0] at hs
    split at hs
    · cases hs; intro H locs ls hP hS hl; exact lv_lmul hx hb hdg (k H locs ls hP hS hl)
    · cases hs
  case lcmp =>
    simp only [rb_s0] at hs
    split at hs
    · cases hs; intro H locs ls hP hS hl; exact W.lcmp hx hb hdg (k H locs ls hP hS hl)
    · cases hs
  case iushr =>
    simp only [rb_s0] at hs
    split at hs
    · cases hs; intro H locs ls hP hS hl; exact lv_iushr hx hb hdg rfl (k H locs ls hP hS hl)
    · cases hs
  case i2l =>
    simp only [rb_s0] at hs
    split at hs
    · cases hs; intro H locs ls hP hS hl; exact lv_i2l hx hb hdg rfl (k H locs ls hP hS hl)
    · cases hs
  case i2b =>
    simp only [rb_s0] at hs
    split at hs
    · cases hs; intro H locs ls hP hS hl; exact lv_i2b hx hb hdg rfl (k H locs ls hP hS hl)
    · cases hs
  case i2c =>
    simp only [rb_s0] at hs
    split at hs
    · cases hs; intro H locs ls hP hS hl; exact lv_i2c hx hb hdg rfl (k H locs ls hP hS hl)
    · cases hs
  case i2s =>
    simp only [rb_s0] at hs
    split at hs
    · cases hs; intro H locs ls hP hS hl; exact lv_i2s hx hb hdg rfl (k H locs ls hP hS hl)
    · cases hs
  all_goals (first | cases hs | (simp only [rb_s0] at hs; cases hs))
end S0
theorem rb_one : ∀ j, rb_ty j = 9 → j = 49 := by
  intro j hj
  unfold rb_ty at hj
  by_cases h1 : j < rb_base
  · rw [if_pos h1] at hj
    have key : ∀ j, j < rb_base → rb_tyL.getD j 99 = 9 → j = 49 := by decide +kernel
    exact key j h1 hj
  · rw [if_neg h1] at hj
    split at hj
    · split at hj <;> cases hj
    · cases hj
theorem rb_fk_far {c k : Nat} (hc : c < 10) (h : rb_nf c ≤ k) : rb_fk c k = 9 := by
  have key : ∀ c, c < 10 → (rb_fkL.getD c []).length = rb_nf c := by decide +kernel
  unfold rb_fk
  rw [List.getD_eq_getElem?_getD, List.getElem?_eq_none (by rw [key c hc]; exact h)]
  rfl
theorem rb_fk_lt {c k : Nat} (hc : c < 10) (h : rb_fk c k < 9) : k < rb_nf c := by
  rcases Nat.lt_or_ge k (rb_nf c) with q | q
  · exact q
  · rw [rb_fk_far hc q] at h
    exact absurd h (by decide)
theorem rb_fk_mut {c k : Nat} (hc : c < 10) (h2 : 2 ≤ rb_fk c k) (h9 : rb_fk c k < 9) : c = 9 := by
  have key : ∀ c, c < 10 → ∀ k, k < rb_nf c → 2 ≤ rb_fk c k → c = 9 := by decide +kernel
  exact key c hc k (rb_fk_lt hc h9) h2
theorem rb_fk_inj {k k' : Nat} (h2 : 2 ≤ rb_fk 9 k) (h9 : rb_fk 9 k < 9) (e : rb_fk 9 k' = rb_fk 9 k) : k' = k := by
  have key : ∀ k, k < rb_nf 9 → ∀ k', k' < rb_nf 9 → 2 ≤ rb_fk 9 k → rb_fk 9 k' = rb_fk 9 k → k' = k := by decide +kernel
  exact key k (rb_fk_lt (by decide) h9) k' (rb_fk_lt (by decide) (by rw [e]; exact h9)) h2 e
theorem rb_ft_int {c k : Nat} (hc : c < 10) (h : rb_fk c k = 0) : rb_ft c k = .int ∨ rb_ft c k = .boolean := by
  have key : ∀ c, c < 10 → ∀ k, k < rb_nf c → rb_fk c k = 0 → (rb_ft c k = .int ∨ rb_ft c k = .boolean) := by decide +kernel
  exact key c hc k (rb_fk_lt hc (by rw [h]; decide)) h
theorem rb_ft_mut {k : Nat} (h2 : 2 ≤ rb_fk 9 k) (h9 : rb_fk 9 k < 9) : rb_ft 9 k = .array .byte := by
  have key : ∀ k, k < rb_nf 9 → 2 ≤ rb_fk 9 k → rb_ft 9 k = .array .byte := by decide +kernel
  exact key k (rb_fk_lt (by decide) h9) h2
theorem rb_W_o (g : rb_G) (h : rb_H) {i c : Nat} (ht : rb_ty i = c) (hc : c < 10) : (rb_W g h)[i]? = some (rb_ad g i, .inr (c, (List.range (rb_nf c)).map (rb_fv g h c i))) := by
  rw [rb_W_at g h (rb_ty_lt (by omega)), rb_ent_o g h ht hc]
theorem rb_W_i (g : rb_G) (h : rb_H) {i t : Nat} (ht : rb_ty i = t) (h1 : 10 ≤ t) (h2 : t < 14) : (rb_W g h)[i]? = some (rb_ad g i, .inl (rb_tc g t, rb_len i, .inl (rb_hI h i))) := by
  rw [rb_W_at g h (rb_ty_lt (by omega)), rb_ent_i g h ht h1 h2]
theorem rb_W_l (g : rb_G) (h : rb_H) {i : Nat} (ht : rb_ty i = 14) : (rb_W g h)[i]? = some (rb_ad g i, .inl (rb_tc g 14, rb_len i, .inr (.inl (rb_hJ h i)))) := by
  rw [rb_W_at g h (rb_ty_lt (by omega)), rb_ent_l g h ht]
theorem rb_W_r (g : rb_G) (h : rb_H) {i t : Nat} (ht : rb_ty i = t) (h1 : 15 ≤ t) (h2 : t < 99) : (rb_W g h)[i]? = some (rb_ad g i, .inl (rb_tc g t, rb_len i, .inr (.inr (.inr (.inr (fun j => some (rb_ad g (rb_ra i j)))))))) := by
  rw [rb_W_at g h (rb_ty_lt (by omega)), rb_ent_r g h ht h1]
section S1
variable {X : rb_X} {g : rb_G} {o nL d pc n a b : Nat} {cc : ByteArray} {rt : Option FieldType} {res : Option Value × rb_H} {h : rb_H} {lv : List (Nat × Value)} {st : List Value} {v : Value} {q idx : Nat}
theorem rb_getf_ok (C : rb_Cx X g o cc nL rt d) (hdg : decode cc pc = .ok (.getfield idx, 3)) (hk : rb_fl o idx = some (a, b)) (hq : rb_ty q = a) {w : Value} (hw : rb_fv g h a q b = rb_cv g w) (k : rb_Ok X g nL res h (pc + 3) lv (w :: st)) : rb_Ok X g nL res h pc lv (.ref q :: st) := by
  obtain ⟨p, l, e, R, s, m, args, below, meth, c⟩ := X
  obtain ⟨hx, hb, hml, hr, hown, hts, hlk, hR, hSc⟩ := C
  obtain ⟨⟨ha, hb'⟩, hwd⟩ := rb_fl_ok hk
  dsimp only at ha hb' hwd
  intro H locs ls hP hS hl
  refine va_get (D := rb_D g) (cl := rb_cl) (ws := rb_W g h) (C := (rb_cq a).1) (T := (rb_cq a).2.1) (N := (rb_cq a).2.2) (ci := a) hx hb hts (rb_in a ha) hown hSc.1 hP q (rb_W_o g h hq ha) (rb_cl_at a ha) b hb' (hts _ hwd) (fun _ h => h) (v := rb_cv g w) ?_ hdg (k H locs ls hP hS hl)
  rw [← hw]
  exact rb_fs_at g h a q (by rw [rb_nf_N a ha]; exact hb')
theorem rb_putI_ok (C : rb_Cx X g o cc nL rt d) (hdg : decode cc pc = .ok (.putfield idx, 3)) (hk : rb_fl o idx = some (a, b)) (hfin : ((rb_cq a).2.1 b).2.2.2 = false) (hq : rb_ty q = a) {x : Int32} (hf : rb_fk a b = 0) (hz : rb_fz a b x) (k : rb_Ok X g nL res (rb_sF h q b x) (pc + 3) lv st) : rb_Ok X g nL res h pc lv (.int x :: .ref q :: st) := by
  obtain ⟨p, l, e, R, s, m, args, below, meth, c⟩ := X
  obtain ⟨hx, hb, hml, hr, hown, hts, hlk, hR, hSc⟩ := C
  obtain ⟨⟨ha, hb'⟩, hwd⟩ := rb_fl_ok hk
  dsimp only at ha hb' hwd
  intro H locs ls hP hS hl
  have hnf : narrow (rb_ft a b) (.int x) = .int x ∧ fits (rb_ft a b) (.int x) = true := by
    unfold rb_fz at hz
    rcases rb_ft_int ha hf with e1 | e1
    · rw [e1]; exact ⟨rfl, rfl⟩
    · rw [e1] at hz ⊢
      rcases hz with e2 | e2 <;> subst e2 <;> exact ⟨by decide, by decide⟩
  refine va_put (D := rb_D g) (cl := rb_cl) (ws := rb_W g h) (C := (rb_cq a).1) (T := (rb_cq a).2.1) (N := (rb_cq a).2.2) (ci := a) hx hb hts (rb_in a ha) (rb_ft a) (rb_ft_ok a ha) (rb_nm_ok a ha) hown hSc.1 hP (rb_va_D hSc.2.1 h) hS q (rb_W_o g h hq ha) (rb_cl_at a ha) b hb' (hts _ hwd) (fun _ h => h) hfin (rb_ft_ok a ha b hb') hnf.1 hnf.2 ?_ hdg (fun H1 locs1 hP1 hD1 hS1 => ?_)
  · rw [List.length_map, List.length_range, rb_nf_N a ha]; exact hb'
  · rw [show rb_cv g (.int x) = .int x from rfl, rb_W_sF g h x hq ha hf] at hP1
    exact k H1 locs1 ls hP1 hS1 hl
theorem rb_putR_ok (C : rb_Cx X g o cc nL rt d) (hdg : decode cc pc = .ok (.putfield idx, 3)) (hk : rb_fl o idx = some (a, b)) (hfin : ((rb_cq a).2.1 b).2.2.2 = false) (hq : rb_ty q = a) {r z : Nat} (hf : rb_fk a b = z + 2) (hz : rb_ty r = 13) (k : rb_Ok X g nL res (rb_sR h z r) (pc + 3) lv st) : rb_Ok X g nL res h pc lv (.ref r :: .ref q :: st) := by
  obtain ⟨p, l, e, R, s, m, args, below, meth, c⟩ := X
  obtain ⟨hx, hb, hml, hr, hown, hts, hlk, hR, hSc⟩ := C
  obtain ⟨⟨ha, hb'⟩, hwd⟩ := rb_fl_ok hk
  dsimp only at ha hb' hwd
  intro H locs ls hP hS hl
  have h9 : rb_fk a b < 9 := by
    have key : ∀ c, c < 10 → ∀ k, k < rb_nf c → rb_fk c k < 9 := by decide +kernel
    exact key a ha b (by rw [rb_nf_N a ha]; exact hb')
  have e9 : a = 9 := rb_fk_mut ha (by omega) h9
  subst e9
  have hft := rb_ft_mut (k := b) (by omega) h9
  have hr0 : r ≠ 0 := fun e => by rw [e] at hz; exact absurd hz (by decide)
  refine va_put (D := rb_D g) (cl := rb_cl) (ws := rb_W g h) (C := (rb_cq 9).1) (T := (rb_cq 9).2.1) (N := (rb_cq 9).2.2) (ci := 9) hx hb hts (rb_in 9 ha) (rb_ft 9) (rb_ft_ok 9 ha) (rb_nm_ok 9 ha) hown hSc.1 hP (rb_va_D hSc.2.1 h) hS q (rb_W_o g h hq ha) (rb_cl_at 9 ha) b hb' (hts _ hwd) (fun _ h => h) hfin (rb_ft_ok 9 ha b hb') (by rw [hft]; rfl) (by rw [hft]; rfl) ?_ hdg (fun H1 locs1 hP1 hD1 hS1 => ?_)
  · rw [List.length_map, List.length_range, rb_nf_N 9 ha]; exact hb'
  · rw [show rb_cv g (.ref r) = .ref (rb_ad g r) from rfl, rb_W_sR g h hq ha hf hr0 (fun j hj => (rb_one j hj).trans (rb_one q hq).symm) (fun j k' h1 h2 => by
      have e1 := rb_fk_mut h1 (k := k') (by omega) (by omega)
      rw [e1] at h2
      exact ⟨e1, rb_fk_inj (by omega) h9 (by omega)⟩)] at hP1
    exact k H1 locs1 ls hP1 hS1 hl
theorem rb_iald_ok (C : rb_Cx X g o cc nL rt d) (hdg : decode cc pc = .ok (.iaload, 1)) {i : Int32} (hq : rb_ty q = 10) (hi : ¬ rb_oob i (rb_len q)) (k : rb_Ok X g nL res h (pc + 1) lv (.int (rb_hI h q i.toNatClampNeg) :: st)) : rb_Ok X g nL res h pc lv (.int i :: .ref q :: st) := by
  obtain ⟨p, l, e, R, s, m, args, below, meth, c⟩ := X
  obtain ⟨hx, hb, hml, hr, hown, hts, hlk, hR, hSc⟩ := C
  intro H locs ls hP hS hl
  exact va_iald hx hb hSc.1 hP q 0 (rb_W_i g h hq (by decide) (by decide)) rfl hi hdg (k H locs ls hP hS hl)
theorem rb_ialdS_ok (C : rb_Cx X g o cc nL rt d) (hdg : decode cc pc = .ok (.iaload, 1)) {i : Int32} (hq : q < 8) (hi : ¬ rb_oob i (rb_sl q)) (k : rb_Ok X g nL res h (pc + 1) lv (.int (rb_sv q i.toNatClampNeg) :: st)) : rb_Ok X g nL res h pc lv (.int i :: .retAddr q :: st) := by
  obtain ⟨p, l, e, R, s, m, args, below, meth, c⟩ := X
  obtain ⟨hx, hb, hml, hr, hown, hts, hlk, hR, hSc⟩ := C
  intro H locs ls hP hS hl
  obtain ⟨cell, h1, h2, h3, h4, h5, h6, h7⟩ := ((hSc.2.2.1.1 q hq).2).kept hS.2.1
  have hlt : i.toNatClampNeg < rb_sl q := Nat.not_le.mp fun z => hi (Or.inr z)
  exact W.iald hx hb h1 h2 h3 (fun z => z.elim (fun z => hi (Or.inl z)) (fun z => hi (Or.inr (Nat.le_trans h4 z)))) (h6 _ hlt) rfl rfl hdg (k H locs ls hP hS hl)
theorem rb_cald_ok (C : rb_Cx X g o cc nL rt d) (hdg : decode cc pc = .ok (.caload, 1)) {i : Int32} (hq : rb_ty q = 12) (hi : ¬ rb_oob i (rb_len q)) (k : rb_Ok X g nL res h (pc + 1) lv (.int (rb_hI h q i.toNatClampNeg) :: st)) : rb_Ok X g nL res h pc lv (.int i :: .ref q :: st) := by
  obtain ⟨p, l, e, R, s, m, args, below, meth, c⟩ := X
  obtain ⟨hx, hb, hml, hr, hown, hts, hlk, hR, hSc⟩ := C
  intro H locs ls hP hS hl
  exact va_cald hx hb hSc.1 hP q 2 (rb_W_i g h hq (by decide) (by decide)) rfl hi hdg (k H locs ls hP hS hl)
theorem rb_bald_ok (C : rb_Cx X g o cc nL rt d) (hdg : decode cc pc = .ok (.baload, 1)) {i : Int32} (hq : rb_ty q = 11 ∨ rb_ty q = 13) (hi : ¬ rb_oob i (rb_len q)) (k : rb_Ok X g nL res h (pc + 1) lv (.int (rb_hI h q i.toNatClampNeg) :: st)) : rb_Ok X g nL res h pc lv (.int i :: .ref q :: st) := by
  obtain ⟨p, l, e, R, s, m, args, below, meth, c⟩ := X
  obtain ⟨hx, hb, hml, hr, hown, hts, hlk, hR, hSc⟩ := C
  intro H locs ls hP hS hl
  rcases hq with hq | hq
  · exact va_zald hx hb hSc.1 hP q 1 (rb_W_i g h hq (by decide) (by decide)) rfl hi hdg (k H locs ls hP hS hl)
  · exact va_bald hx hb hSc.1 hP q 3 (rb_W_i g h hq (by decide) (by decide)) rfl hi hdg (k H locs ls hP hS hl)
theorem rb_lald_ok (C : rb_Cx X g o cc nL rt d) (hdg : decode cc pc = .ok (.laload, 1)) {i : Int32} (hq : rb_ty q = 14) (hi : ¬ rb_oob i (rb_len q)) (k : rb_Ok X g nL res h (pc + 1) lv (.long (rb_hJ h q i.toNatClampNeg) :: st)) : rb_Ok X g nL res h pc lv (.int i :: .ref q :: st) := by
  obtain ⟨p, l, e, R, s, m, args, below, meth, c⟩ := X
  obtain ⟨hx, hb, hml, hr, hown, hts, hlk, hR, hSc⟩ := C
  intro H locs ls hP hS hl
  exact va_lald hx hb hSc.1 hP q 4 (rb_W_l g h hq) rfl hi hdg (k H locs ls hP hS hl)
theorem rb_aald_ok (C : rb_Cx X g o cc nL rt d) (hdg : decode cc pc = .ok (.aaload, 1)) {i : Int32} (hq : rb_ty q = 15 ∨ rb_ty q = 16) (hi : ¬ rb_oob i (rb_len q)) (k : rb_Ok X g nL res h (pc + 1) lv (.ref (rb_ra q i.toNatClampNeg) :: st)) : rb_Ok X g nL res h pc lv (.int i :: .ref q :: st) := by
  obtain ⟨p, l, e, R, s, m, args, below, meth, c⟩ := X
  obtain ⟨hx, hb, hml, hr, hown, hts, hlk, hR, hSc⟩ := C
  intro H locs ls hP hS hl
  have hlt : i.toNatClampNeg < rb_len q := Nat.not_le.mp fun z => hi (Or.inr z)
  rcases hq with hq | hq
  · exact va_aldq hx hb hSc.1 hP q 5 (rb_W_r g h hq (by decide) (by decide)) rfl hi hdg (k H locs ls hP hS hl)
  · have hc := hP q _ (rb_W_r g h hq (by decide) (by decide))
    exact W.aald (v := .ref (rb_ad g (rb_ra q i.toNatClampNeg))) (ty := .array .int) hx hb hc ((hSc.1.2 6 (rb_tc g 16, .array .int) rfl).1 (rb_len q) (fun j => va_rf (some (rb_ad g (rb_ra q j))))) rfl (fun q => by cases q) (by show ¬ (i < 0 ∨ (arrV _ _ _).slots.size ≤ _); rw [arrV_size]; exact hi) (by show (arrV _ _ _).slots[_]? = _; rw [arrV_read _ _ hlt]; rfl) rfl rfl hdg (k H locs ls hP hS hl)
theorem rb_alen_ok (C : rb_Cx X g o cc nL rt d) (hdg : decode cc pc = .ok (.arraylength, 1)) (hq : 10 ≤ rb_ty q ∧ rb_ty q < 17) (k : rb_Ok X g nL res h (pc + 1) lv (.int (Int32.ofNat (rb_len q)) :: st)) : rb_Ok X g nL res h pc lv (.ref q :: st) := by
  obtain ⟨p, l, e, R, s, m, args, below, meth, c⟩ := X
  obtain ⟨hx, hb, hml, hr, hown, hts, hlk, hR, hSc⟩ := C
  intro H locs ls hP hS hl
  obtain ⟨t, ht⟩ : ∃ t, rb_ty q = t := ⟨_, rfl⟩
  rw [ht] at hq
  obtain ⟨q1, q2⟩ := hq
  have hty : ∃ ty, (rb_tys g)[t - 10]? = some (rb_tc g t, ty) := by
    match t, q1, q2 with
    | 10, _, _ => exact ⟨_, rfl⟩
    | 11, _, _ => exact ⟨_, rfl⟩
    | 12, _, _ => exact ⟨_, rfl⟩
    | 13, _, _ => exact ⟨_, rfl⟩
    | 14, _, _ => exact ⟨_, rfl⟩
    | 15, _, _ => exact ⟨_, rfl⟩
    | 16, _, _ => exact ⟨_, rfl⟩
    | t + 17, _, h2 => omega
  obtain ⟨ty, hty⟩ := hty
  rcases Nat.lt_or_ge t 14 with h1 | h1
  · exact va_alen hx hb hSc.1 hP q (t - 10) (rb_W_i g h ht q1 h1) hty rfl hdg (k H locs ls hP hS hl)
  · rcases Nat.lt_or_ge t 15 with h2 | h2
    · have e : t = 14 := by omega
      subst e
      exact va_alen hx hb hSc.1 hP q 4 (rb_W_l g h ht) hty rfl hdg (k H locs ls hP hS hl)
    · exact va_alen hx hb hSc.1 hP q (t - 10) (rb_W_r g h ht h2 (by omega)) hty rfl hdg (k H locs ls hP hS hl)
theorem rb_alenS_ok (C : rb_Cx X g o cc nL rt d) (hdg : decode cc pc = .ok (.arraylength, 1)) (hq : q < 8) (k : rb_Ok X g nL res h (pc + 1) lv (.int (Int32.ofNat (rb_sl q)) :: st)) : rb_Ok X g nL res h pc lv (.retAddr q :: st) := by
  obtain ⟨p, l, e, R, s, m, args, below, meth, c⟩ := X
  obtain ⟨hx, hb, hml, hr, hown, hts, hlk, hR, hSc⟩ := C
  intro H locs ls hP hS hl
  obtain ⟨cell, h1, h2, h3, h4, h5, h6, h7⟩ := ((hSc.2.2.1.1 q hq).2).kept hS.2.1
  exact W.alen hx hb h1 h2 h5 rfl rfl hdg (k H locs ls hP hS hl)
theorem rb_iast_ok (C : rb_Cx X g o cc nL rt d) (hdg : decode cc pc = .ok (.iastore, 1)) {i x : Int32} (hq : rb_ty q = 10) (hi : ¬ rb_oob i (rb_len q)) (k : rb_Ok X g nL res (rb_sI h q i.toNatClampNeg x) (pc + 1) lv st) : rb_Ok X g nL res h pc lv (.int x :: .int i :: .ref q :: st) := by
  obtain ⟨p, l, e, R, s, m, args, below, meth, c⟩ := X
  obtain ⟨hx, hb, hml, hr, hown, hts, hlk, hR, hSc⟩ := C
  intro H locs ls hP hS hl
  refine va_iast hx hb hSc.1 hP (rb_va_D hSc.2.1 h) hS q 0 (rb_W_i g h hq (by decide) (by decide)) rfl hi hdg (fun H1 locs1 hP1 hD1 hS1 => ?_)
  rw [rb_W_sI g h x hq (by decide) (by decide)] at hP1
  exact k H1 locs1 ls hP1 hS1 hl
theorem rb_cast_ok (C : rb_Cx X g o cc nL rt d) (hdg : decode cc pc = .ok (.castore, 1)) {i x : Int32} (hq : rb_ty q = 12) (hi : ¬ rb_oob i (rb_len q)) (k : rb_Ok X g nL res (rb_sI h q i.toNatClampNeg (vp_nar .char x)) (pc + 1) lv st) : rb_Ok X g nL res h pc lv (.int x :: .int i :: .ref q :: st) := by
  obtain ⟨p, l, e, R, s, m, args, below, meth, c⟩ := X
  obtain ⟨hx, hb, hml, hr, hown, hts, hlk, hR, hSc⟩ := C
  intro H locs ls hP hS hl
  refine va_cast hx hb hSc.1 hP (rb_va_D hSc.2.1 h) hS q 2 (rb_W_i g h hq (by decide) (by decide)) rfl hi hdg (fun H1 locs1 hP1 hD1 hS1 => ?_)
  rw [rb_W_sI g h _ hq (by decide) (by decide)] at hP1
  exact k H1 locs1 ls hP1 hS1 hl
theorem rb_bast_ok (C : rb_Cx X g o cc nL rt d) (hdg : decode cc pc = .ok (.bastore, 1)) {i x : Int32} (ha : a = 11 ∨ a = 13) (hq : rb_ty q = a) (hi : ¬ rb_oob i (rb_len q)) (k : rb_Ok X g nL res (rb_sI h q i.toNatClampNeg (vp_nar (if a = 11 then .boolean else .byte) x)) (pc + 1) lv st) : rb_Ok X g nL res h pc lv (.int x :: .int i :: .ref q :: st) := by
  obtain ⟨p, l, e, R, s, m, args, below, meth, c⟩ := X
  obtain ⟨hx, hb, hml, hr, hown, hts, hlk, hR, hSc⟩ := C
  intro H locs ls hP hS hl
  rcases ha with ha | ha <;> subst ha
  · refine va_zast hx hb hSc.1 hP (rb_va_D hSc.2.1 h) hS q 1 (rb_W_i g h hq (by decide) (by decide)) rfl hi hdg (fun H1 locs1 hP1 hD1 hS1 => ?_)
    rw [rb_W_sI g h _ hq (by decide) (by decide)] at hP1
    exact k H1 locs1 ls hP1 hS1 hl
  · refine va_bast hx hb hSc.1 hP (rb_va_D hSc.2.1 h) hS q 3 (rb_W_i g h hq (by decide) (by decide)) rfl hi hdg (fun H1 locs1 hP1 hD1 hS1 => ?_)
    rw [rb_W_sI g h _ hq (by decide) (by decide)] at hP1
    exact k H1 locs1 ls hP1 hS1 hl
theorem rb_last_ok (C : rb_Cx X g o cc nL rt d) (hdg : decode cc pc = .ok (.lastore, 1)) {i : Int32} {x : Int64} (hq : rb_ty q = 14) (hi : ¬ rb_oob i (rb_len q)) (k : rb_Ok X g nL res (rb_sJ h q i.toNatClampNeg x) (pc + 1) lv st) : rb_Ok X g nL res h pc lv (.long x :: .int i :: .ref q :: st) := by
  obtain ⟨p, l, e, R, s, m, args, below, meth, c⟩ := X
  obtain ⟨hx, hb, hml, hr, hown, hts, hlk, hR, hSc⟩ := C
  intro H locs ls hP hS hl
  refine va_last hx hb hSc.1 hP (rb_va_D hSc.2.1 h) hS q 4 (rb_W_l g h hq) rfl hi hdg (fun H1 locs1 hP1 hD1 hS1 => ?_)
  rw [rb_W_sJ g h _ hq] at hP1
  exact k H1 locs1 ls hP1 hS1 hl
end S1

theorem rb_pick_v {l : List (Int × Int)} {dd : Int} {x : Int32} {k : Int → Prop} {v : Int} (h : rb_sw l dd x k) (h1 : ∀ q ∈ l, x = Int32.ofInt q.1 → q.2 = v) (h2 : ∃ q ∈ l, x = Int32.ofInt q.1) : k v := by
  induction l with
  | nil => obtain ⟨q, hq, -⟩ := h2; cases hq
  | cons a t ih =>
    obtain ⟨key, off⟩ := a
    obtain ⟨g1, g2⟩ := h
    by_cases e : x = Int32.ofInt key
    · rw [← h1 (key, off) List.mem_cons_self e]
      exact g1 e
    · refine ih (g2 e) (fun q hq => h1 q (List.mem_cons_of_mem _ hq)) ?_
      obtain ⟨q, hq, hx⟩ := h2
      rcases List.mem_cons.mp hq with r | r
      · subst r; exact absurd hx e
      · exact ⟨q, r, hx⟩
theorem rb_pick_d {l : List (Int × Int)} {dd : Int} {x : Int32} {k : Int → Prop} (h : rb_sw l dd x k) (h1 : ∀ q ∈ l, ¬ x = Int32.ofInt q.1) : k dd := by
  induction l with
  | nil => exact h
  | cons a t ih =>
    obtain ⟨key, off⟩ := a
    exact ih (h.2 (h1 (key, off) List.mem_cons_self)) (fun q hq => h1 q (List.mem_cons_of_mem _ hq))
theorem rb_key {x : Int32} {z : Int} (h1 : -2147483648 ≤ z) (h2 : z ≤ 2147483647) : x = Int32.ofInt z ↔ x.toInt = z := by
  constructor
  · intro e
    rw [e, Int32.toInt_ofInt_of_le (by omega) (by omega)]
  · intro e
    rw [← e, Int32.ofInt_toInt]
section S2
variable {X : rb_X} {g : rb_G} {o nL d pc n a b : Nat} {cc : ByteArray} {rt : Option FieldType} {res : Option Value × rb_H} {h : rb_H} {lv : List (Nat × Value)} {st : List Value} {v : Value} {q idx : Nat}
theorem rb_table_ok (C : rb_Cx X g o cc nL rt d) {dflt lo hi : Int} {offs : Array Int} (hdg : decode cc pc = .ok (.tableswitch dflt lo hi offs, n)) (hk : rb_k1 o nL pc (.tableswitch dflt lo hi offs, n, a, b, v) = true) {x : Int32} (hs : rb_sw ((List.range offs.size).map fun (j : Nat) => (lo + (j : Int), offs.getD j 0)) dflt x (fun off => rb_Ok X g nL res h ((pc : Int) + off).toNat lv st)) : rb_Ok X g nL res h pc lv (.int x :: st) := by
  obtain ⟨p, l, e, R, s, m, args, below, meth, c⟩ := X
  obtain ⟨hx, hb, hml, hr, hown, hts, hlk, hR, hSc⟩ := C
  simp only [rb_k1, Bool.and_eq_true, decide_eq_true_eq, List.all_eq_true] at hk
  obtain ⟨⟨⟨k1, k2⟩, k3⟩, k4⟩ := hk
  have rng : ∀ q ∈ (List.range offs.size).map (fun (j : Nat) => (lo + (j : Int), offs.getD j 0)), ∃ j : Nat, j < offs.size ∧ q = (lo + (j : Int), offs.getD j 0) ∧ (x = Int32.ofInt q.1 ↔ x.toInt = lo + (j : Int)) := by
    intro q hq
    obtain ⟨j, hj, rfl⟩ := List.mem_map.mp hq
    have hj := List.mem_range.mp hj
    exact ⟨j, hj, rfl, rb_key (by omega) (by omega)⟩
  intro H locs ls hP hS hl
  by_cases h1 : x.toInt < lo ∨ hi < x.toInt
  · have key := rb_pick_d hs (fun q hq => by
      obtain ⟨j, hj, rfl, e1⟩ := rng q hq
      rw [e1]
      omega)
    exact lv_tableOut hx hb hdg h1 (by omega) (key H locs ls hP hS hl)
  · have h2 : ¬ x.toInt < lo := fun z => h1 (Or.inl z)
    have h3 : ¬ hi < x.toInt := fun z => h1 (Or.inr z)
    have hj : (x.toInt - lo).toNat < offs.size := by omega
    have key := rb_pick_v (v := offs.getD (x.toInt - lo).toNat 0) hs (fun q hq e0 => by
      obtain ⟨j, hj, rfl, e1⟩ := rng q hq
      have e2 := e1.mp e0
      show offs.getD j 0 = _
      rw [show j = (x.toInt - lo).toNat by omega]) ⟨(lo + ((x.toInt - lo).toNat : Int), offs.getD (x.toInt - lo).toNat 0), List.mem_map.mpr ⟨(x.toInt - lo).toNat, List.mem_range.mpr hj, rfl⟩, (rb_key (by omega) (by omega)).mpr (by omega)⟩
    have he : offs[(x.toInt - lo).toNat]? = some (offs.getD (x.toInt - lo).toNat 0) := by
      rw [Array.getD_eq_getD_getElem?, Array.getElem?_eq_getElem hj]
      rfl
    have hn := k2 (offs.getD (x.toInt - lo).toNat 0) (by
      rw [Array.mem_toList_iff]
      exact Array.mem_of_getElem? he)
    exact lv_tableIn hx hb hdg h2 h3 he (by omega) (key H locs ls hP hS hl)
theorem rb_lookup_ok (C : rb_Cx X g o cc nL rt d) {dflt : Int} {ps : Array (Int × Int)} (hdg : decode cc pc = .ok (.lookupswitch dflt ps, n)) (hk : rb_k1 o nL pc (.lookupswitch dflt ps, n, a, b, v) = true) {x : Int32} (hs : rb_sw ps.toList dflt x (fun off => rb_Ok X g nL res h ((pc : Int) + off).toNat lv st)) : rb_Ok X g nL res h pc lv (.int x :: st) := by
  obtain ⟨p, l0, e, R, s, m, args, below, meth, c⟩ := X
  obtain ⟨hx, hb, hml, hr, hown, hts, hlk, hR, hSc⟩ := C
  simp only [rb_k1, Bool.and_eq_true] at hk
  obtain ⟨⟨k1, k2⟩, k3⟩ := hk
  have k1 := of_decide_eq_true k1
  have k2 : ∀ f ∈ ps.toList, 0 ≤ (pc : Int) + f.2 ∧ -2147483648 ≤ f.1 ∧ f.1 ≤ 2147483647 := fun f hf => by
    have := List.all_eq_true.mp k2 f hf
    simp only [Bool.and_eq_true, decide_eq_true_eq] at this
    exact this
  have key : ∀ (l : List (Int × Int)), (∀ f ∈ l, 0 ≤ (pc : Int) + f.2 ∧ -2147483648 ≤ f.1 ∧ f.1 ≤ 2147483647) → rb_sw l dflt x (fun off => rb_Ok (p, l0, e, R, s, m, args, below, meth, c) g nL res h ((pc : Int) + off).toNat lv st) → 0 ≤ (pc : Int) + Op.lookupswitch.offset l dflt x.toInt ∧ rb_Ok (p, l0, e, R, s, m, args, below, meth, c) g nL res h ((pc : Int) + Op.lookupswitch.offset l dflt x.toInt).toNat lv st := by
    intro l
    induction l with
    | nil => intro _ h2; exact ⟨k1, h2⟩
    | cons f t ih =>
      intro h1 h2
      obtain ⟨key, off⟩ := f
      have hf := h1 (key, off) List.mem_cons_self
      rw [Op.lookupswitch.offset_cons]
      by_cases e1 : x = Int32.ofInt key
      · rw [if_pos ((rb_key hf.2.1 hf.2.2).mp e1).symm]
        exact ⟨hf.1, h2.1 e1⟩
      · rw [if_neg (fun z => e1 ((rb_key hf.2.1 hf.2.2).mpr z.symm))]
        exact ih (fun q hq => h1 q (List.mem_cons_of_mem _ hq)) (h2.2 e1)
  obtain ⟨r1, r2⟩ := key ps.toList k2 hs
  intro H locs ls hP hS hl
  exact lv_lookup hx hb hdg k3 rfl (by omega) (r2 H locs ls hP hS hl)
theorem rb_cp_ok (C : rb_Cx X g o cc nL rt d) (hdg : decode cc pc = .ok (.invokestatic idx, 3)) (hk : rb_lk o idx 0 0) {k sp dp : Int32} {q1 q2 : Nat} (h1 : rb_ty q1 = 10 ∧ rb_ty q2 = 10) (h2 : ¬ sp < 0 ∧ ¬ dp < 0 ∧ ¬ k < 0) (h3 : sp.toNatClampNeg + k.toNatClampNeg ≤ rb_len q1 ∧ dp.toNatClampNeg + k.toNatClampNeg ≤ rb_len q2) (h4 : 1 ≤ d ∧ rb_ct st ≤ 8)
    (kk : rb_Ok X g nL res (rb_cp h q1 q2 sp.toNatClampNeg dp.toNatClampNeg k.toNatClampNeg) (pc + 3) lv st) : rb_Ok X g nL res h pc lv (.int k :: .int dp :: .ref q2 :: .int sp :: .ref q1 :: st) := by
  obtain ⟨p, l, e, R, s, m, args, below, meth, c⟩ := X
  obtain ⟨hx, hb, hml, hr, hown, hts, hlk, hR, hSc⟩ := C
  intro H locs ls hP hS hl
  have hct : ((st.map (rb_cv g)).map fun v => v.category).sum ≤ 8 := by
    rw [List.map_map, show ((fun v : Value => v.category) ∘ rb_cv g) = (fun v => v.category) from funext fun v => rb_cv_cat g v]
    exact h4.2
  refine va_copyi hx hb (hml.trans hl.1.symm) hown (hts _ hk) (hts _ rb_gA.1) (hts _ rb_gA.2.1) (hts _ rb_gA.2.2) hSc.1 hP (rb_va_D hSc.2.1 h) hS q1 q2 0 0 (rb_W_i g h h1.1 (by decide) (by decide)) (rb_W_i g h h1.2 (by decide) (by decide)) rfl rfl rfl h2.1 h2.2.1 h2.2.2 h3.1 h3.2 (fun _ _ => rfl) ?_ ?_ hdg (fun H1 locs1 hP1 hD1 hS1 => ?_)
  · rw [hR]; exact h4.1
  · rw [hR]
    show _ + (7 + 11) ≤ 40 * d
    omega
  · rw [rb_W_cp g h h1.2 (by decide) (by decide)] at hP1
    exact kk H1 locs1 ls hP1 hS1 hl
theorem rb_m1_ok (C : rb_Cx X g o cc nL rt d) (hdg : decode cc pc = .ok (.invokestatic idx, 3)) (hk : rb_lk o idx 0 1) {x y : Int32} (h4 : 1 ≤ d ∧ rb_ct st ≤ 8) (kk : rb_Ok X g nL res h (pc + 3) lv (.int (if x < y then y else x) :: st)) : rb_Ok X g nL res h pc lv (.int y :: .int x :: st) := by
  obtain ⟨p, l, e, R, s, m, args, below, meth, c⟩ := X
  obtain ⟨hx, hb, hml, hr, hown, hts, hlk, hR, hSc⟩ := C
  intro H locs ls hP hS hl
  have hct : ((st.map (rb_cv g)).map fun v => v.category).sum ≤ 8 := by
    rw [List.map_map, show ((fun v : Value => v.category) ∘ rb_cv g) = (fun v => v.category) from funext fun v => rb_cv_cat g v]
    exact h4.2
  exact va_mmax hx hb (hml.trans hl.1.symm) hown (hts _ hk) (hts _ rb_gM1.1) (hts _ rb_gM1.2.1) (hts _ rb_gM1.2.2) (by rw [hR]; exact h4.1) (by rw [hR]; show _ ≤ 40 * d; omega) (by rw [hR]; exact Nat.le_refl 0) (by rw [hR]; exact Nat.le_refl 0) hdg (kk H locs ls hP hS hl)
theorem rb_m2_ok (C : rb_Cx X g o cc nL rt d) (hdg : decode cc pc = .ok (.invokestatic idx, 3)) (hk : rb_lk o idx 0 2) {x y : Int32} (h4 : 1 ≤ d ∧ rb_ct st ≤ 8) (kk : rb_Ok X g nL res h (pc + 3) lv (.int (if y < x then y else x) :: st)) : rb_Ok X g nL res h pc lv (.int y :: .int x :: st) := by
  obtain ⟨p, l, e, R, s, m, args, below, meth, c⟩ := X
  obtain ⟨hx, hb, hml, hr, hown, hts, hlk, hR, hSc⟩ := C
  intro H locs ls hP hS hl
  have hct : ((st.map (rb_cv g)).map fun v => v.category).sum ≤ 8 := by
    rw [List.map_map, show ((fun v : Value => v.category) ∘ rb_cv g) = (fun v => v.category) from funext fun v => rb_cv_cat g v]
    exact h4.2
  exact va_mmin hx hb (hml.trans hl.1.symm) hown (hts _ hk) (hts _ rb_gM2.1) (hts _ rb_gM2.2.1) (hts _ rb_gM2.2.2) (by rw [hR]; exact h4.1) (by rw [hR]; show _ ≤ 40 * d; omega) (by rw [hR]; exact Nat.le_refl 0) (by rw [hR]; exact Nat.le_refl 0) hdg (kk H locs ls hP hS hl)
theorem rb_m3_ok (C : rb_Cx X g o cc nL rt d) (hdg : decode cc pc = .ok (.invokestatic idx, 3)) (hk : rb_lk o idx 0 3) {x : Int32} (h4 : 1 ≤ d ∧ rb_ct st ≤ 8) (kk : rb_Ok X g nL res h (pc + 3) lv (.int (if 0 ≤ x then x else 0 - x) :: st)) : rb_Ok X g nL res h pc lv (.int x :: st) := by
  obtain ⟨p, l, e, R, s, m, args, below, meth, c⟩ := X
  obtain ⟨hx, hb, hml, hr, hown, hts, hlk, hR, hSc⟩ := C
  intro H locs ls hP hS hl
  have hct : ((st.map (rb_cv g)).map fun v => v.category).sum ≤ 8 := by
    rw [List.map_map, show ((fun v : Value => v.category) ∘ rb_cv g) = (fun v => v.category) from funext fun v => rb_cv_cat g v]
    exact h4.2
  exact va_mabs hx hb (hml.trans hl.1.symm) hown (hts _ hk) (hts _ rb_gM3.1) (hts _ rb_gM3.2.1) (hts _ rb_gM3.2.2) (by rw [hR]; exact h4.1) (by rw [hR]; show _ ≤ 40 * d; omega) (by rw [hR]; exact Nat.le_refl 0) (by rw [hR]; exact Nat.le_refl 0) hdg (kk H locs ls hP hS hl)
theorem rb_m4_ok (C : rb_Cx X g o cc nL rt d) (hdg : decode cc pc = .ok (.invokestatic idx, 3)) (hk : rb_lk o idx 0 4) {x y : Int64} (h4 : 1 ≤ d ∧ rb_ct st ≤ 8) (kk : rb_Ok X g nL res h (pc + 3) lv (.long (if y < x then x else y) :: st)) : rb_Ok X g nL res h pc lv (.long y :: .long x :: st) := by
  obtain ⟨p, l, e, R, s, m, args, below, meth, c⟩ := X
  obtain ⟨hx, hb, hml, hr, hown, hts, hlk, hR, hSc⟩ := C
  intro H locs ls hP hS hl
  have hct : ((st.map (rb_cv g)).map fun v => v.category).sum ≤ 8 := by
    rw [List.map_map, show ((fun v : Value => v.category) ∘ rb_cv g) = (fun v => v.category) from funext fun v => rb_cv_cat g v]
    exact h4.2
  exact va_mmax_long hx hb (hml.trans hl.1.symm) hown (hts _ hk) (hts _ rb_gM4.1) (hts _ rb_gM4.2.1) (hts _ rb_gM4.2.2) (by rw [hR]; exact h4.1) (by rw [hR]; show _ ≤ 40 * d; omega) (by rw [hR]; exact Nat.le_refl 0) (by rw [hR]; exact Nat.le_refl 0) hdg (kk H locs ls hP hS hl)
theorem rb_iret_ok (C : rb_Cx X g o cc nL rt d) (hdg : decode cc pc = .ok (.ireturn, 1)) {x : Int32} (hn : rb_nr rt x) (hres : res = (some (.int x), h)) : rb_Ok X g nL res h pc lv [.int x] := by
  obtain ⟨p, l, e, R, s, m, args, below, meth, c⟩ := X
  obtain ⟨hx, hb, hml, hr, hown, hts, hlk, hR, hSc⟩ := C
  obtain ⟨ty, h1, h2⟩ := hn
  subst hres
  intro H locs ls hP hS hl
  exact W.zret (v := x) (ty := ty) hx hb (hr.trans h1) h2 (fun t ht hW => ⟨⟨rfl, by rw [ht]; exact hP⟩, hS.F ht⟩) hS.2.2 hdg hlk
theorem rb_lret_ok (C : rb_Cx X g o cc nL rt d) (hdg : decode cc pc = .ok (.lreturn, 1)) {x : Int64} (hn : rt = some .long) (hres : res = (some (.long x), h)) : rb_Ok X g nL res h pc lv [.long x] := by
  obtain ⟨p, l, e, R, s, m, args, below, meth, c⟩ := X
  obtain ⟨hx, hb, hml, hr, hown, hts, hlk, hR, hSc⟩ := C
  subst hres
  intro H locs ls hP hS hl
  exact W.lret (v := x) hx hb (hr.trans hn) (fun t ht hW => ⟨⟨rfl, by rw [ht]; exact hP⟩, hS.F ht⟩) hS.2.2 hdg hlk
theorem rb_aret_ok (C : rb_Cx X g o cc nL rt d) (hdg : decode cc pc = .ok (.areturn, 1)) (hn : ∃ n, rt = some (.object n)) (hres : res = (some (.retAddr q), h)) : rb_Ok X g nL res h pc lv [.retAddr q] := by
  obtain ⟨p, l, e, R, s, m, args, below, meth, c⟩ := X
  obtain ⟨hx, hb, hml, hr, hown, hts, hlk, hR, hSc⟩ := C
  obtain ⟨nm, hn⟩ := hn
  subst hres
  intro H locs ls hP hS hl
  exact W.aret (v := .ref (rb_as g q)) hx hb (hr.trans hn) (Or.inl ⟨nm, rfl⟩) (Or.inr ⟨_, rfl⟩) (fun t ht hW => ⟨⟨rfl, by rw [ht]; exact hP⟩, hS.F ht⟩) hS.2.2 hdg hlk
theorem rb_vret_ok (C : rb_Cx X g o cc nL rt d) (hdg : decode cc pc = .ok (.return_, 1)) (hn : rt = none) (hres : res = (none, h)) : rb_Ok X g nL res h pc lv [] := by
  obtain ⟨p, l, e, R, s, m, args, below, meth, c⟩ := X
  obtain ⟨hx, hb, hml, hr, hown, hts, hlk, hR, hSc⟩ := C
  subst hres
  intro H locs ls hP hS hl
  exact W.vret hx hb (hr.trans hn) (fun t ht hW => ⟨⟨rfl, by rw [ht]; exact hP⟩, hS.F ht⟩) hS.2.2 hdg hlk
theorem rb_sgetf_ok (C : rb_Cx X g 10 cc nL rt d) (hdg : decode cc pc = .ok (.getfield idx, 3)) (hi : (idx = 9 ∧ b = 0) ∨ (idx = 15 ∧ b = 1)) (hq : 100 ≤ q ∧ q < 100 + rb_nS) (k1 : b = 0 → rb_Ok X g nL res h (pc + 3) lv (.retAddr (100 + q) :: st)) (k2 : ¬ b = 0 → rb_Ok X g nL res h (pc + 3) lv (.int 0 :: st)) : rb_Ok X g nL res h pc lv (.retAddr q :: st) := by
  obtain ⟨p, l, e, R, s, m, args, below, meth, c⟩ := X
  obtain ⟨hx, hb, hml, hr, hown, hts, hlk, hR, hSc⟩ := C
  have hS2 := hSc.2.2.1.2.2.1.1 (q - 100) (by omega)
  intro H locs ls hP hS hl
  have e1 : 100 + (q - 100) = q := by omega
  have e2 : 200 + (q - 100) = 100 + q := by omega
  dsimp only at hS2
  rw [e1, e2] at hS2
  rcases hi with ⟨rfl, rfl⟩ | ⟨rfl, rfl⟩
  · exact vk_getf hx hb hS2.2.2.1 hS hown (hts _ rb_gV) (fun _ h => h) hdg (k1 rfl H locs ls hP hS hl)
  · exact vk_getf hx hb hS2.2.1 hS hown (hts _ rb_gD) (fun _ h => h) hdg (k2 (by decide) H locs ls hP hS hl)
theorem rb_gets_ok (C : rb_Cx X g o cc nL rt d) (hdg : decode cc pc = .ok (.getstatic idx, 3)) (hk : rb_k1 o nL pc (.getstatic idx, 3, a, b, v) = true) (ha : ¬ a = 1) (k : rb_Ok X g nL res h (pc + 3) lv (v :: st)) : rb_Ok X g nL res h pc lv st := by
  obtain ⟨p, l, e, R, s, m, args, below, meth, c⟩ := X
  obtain ⟨hx, hb, hml, hr, hown, hts, hlk, hR, hSc⟩ := C
  simp only [rb_k1] at hk
  rw [if_neg ha] at hk
  split at hk
  · rename_i j hj
    have hv := of_decide_eq_true hk
    subst hv
    obtain ⟨h1, h2⟩ := rb_gl_ok hj
    intro H locs ls hP hS hl
    exact va_gets hx hb (hSc.2.2.1.1 j h1).1 hS hown (hts _ h2) (fun _ h => h) hdg (k H locs ls hP hS hl)
  · obtain ⟨h1, h2, hv⟩ := of_decide_eq_true hk
    subst hv
    subst h1
    subst h2
    intro H locs ls hP hS hl
    exact va_gets hx hb hSc.2.2.1.2.1 hS hown (hts _ rb_gC) (fun _ h => h) hdg (k H locs ls hP hS hl)
theorem rb_getsP_ok (C : rb_Cx X g o cc nL rt d) (hdg : decode cc pc = .ok (.getstatic idx, 3)) (hk : rb_k1 o nL pc (.getstatic idx, 3, a, b, v) = true) (ha : a = 1) (k : rb_Ok X g nL res h (pc + 3) lv (rb_so g :: st)) : rb_Ok X g nL res h pc lv st := by
  obtain ⟨p, l, e, R, s, m, args, below, meth, c⟩ := X
  obtain ⟨hx, hb, hml, hr, hown, hts, hlk, hR, hSc⟩ := C
  simp only [rb_k1] at hk
  rw [if_pos ha] at hk
  obtain ⟨h1, h2⟩ := of_decide_eq_true hk
  subst h1
  subst h2
  intro H locs ls hP hS hl
  exact va_gets hx hb hSc.2.2.1.2.2.2.1 hS hown (hts _ rb_gP) (fun _ h => h) hdg (k H locs ls hP hS hl)
theorem rb_ialdX_ok (C : rb_Cx X g o cc nL rt d) (hdg : decode cc pc = .ok (.iaload, 1)) {i : Int32} (hi : ¬ rb_oob i (rb_xl g)) (k : rb_Ok X g nL res h (pc + 1) lv (.int (rb_xs g i.toNatClampNeg) :: st)) : rb_Ok X g nL res h pc lv (.int i :: .retAddr 300 :: st) := by
  obtain ⟨p, l, e, R, s, m, args, below, meth, c⟩ := X
  obtain ⟨hx, hb, hml, hr, hown, hts, hlk, hR, hSc⟩ := C
  intro H locs ls hP hS hl
  exact va_sld hx hb hSc.2.2.1.2.2.2.2.1 hSc.2.2.1.2.2.2.2.2.1 hSc.2.2.1.2.2.2.2.2.2 hS hi hdg (k H locs ls hP hS hl)
theorem rb_alenX_ok (C : rb_Cx X g o cc nL rt d) (hdg : decode cc pc = .ok (.arraylength, 1)) (k : rb_Ok X g nL res h (pc + 1) lv (.int (Int32.ofNat (rb_xl g)) :: st)) : rb_Ok X g nL res h pc lv (.retAddr 300 :: st) := by
  obtain ⟨p, l, e, R, s, m, args, below, meth, c⟩ := X
  obtain ⟨hx, hb, hml, hr, hown, hts, hlk, hR, hSc⟩ := C
  intro H locs ls hP hS hl
  obtain ⟨scr, h1, h2, h3, h4, h5⟩ := hSc.2.2.1.2.2.2.2.1.kept (hS.2.1 _ hSc.2.2.1.2.2.2.2.2.1 hSc.2.2.1.2.2.2.2.2.2)
  exact W.alen hx hb h1 h2 (by rw [h4]) rfl rfl hdg (k H locs ls hP hS hl)
theorem rb_baldS_ok (C : rb_Cx X g o cc nL rt d) (hdg : decode cc pc = .ok (.baload, 1)) {i : Int32} (hq : 200 ≤ q ∧ q < 200 + rb_nS) (hi : ¬ rb_oob i (rb_slL.getD (q - 200) 0)) (k : rb_Ok X g nL res h (pc + 1) lv (.int ((rb_sbL.getD (q - 200) []).getD i.toNatClampNeg 0) :: st)) : rb_Ok X g nL res h pc lv (.int i :: .retAddr q :: st) := by
  obtain ⟨p, l, e, R, s, m, args, below, meth, c⟩ := X
  obtain ⟨hx, hb, hml, hr, hown, hts, hlk, hR, hSc⟩ := C
  intro H locs ls hP hS hl
  have hS2 := ((hSc.2.2.1.2.2.1.1 (q - 200) (by omega)).2.2.2).kept hS.2.1
  dsimp only at hS2
  rw [show 200 + (q - 200) = q by omega] at hS2
  obtain ⟨cell, h1, h2, h3, h4, h5, h6, h7⟩ := hS2
  have hlt : i.toNatClampNeg < rb_slL.getD (q - 200) 0 := Nat.not_le.mp fun z => hi (Or.inr z)
  exact W.bald hx hb h1 h2 h3 (fun z => z.elim (fun z => hi (Or.inl z)) (fun z => hi (Or.inr (Nat.le_trans h4 z)))) (h6 _ hlt) rfl rfl hdg (k H locs ls hP hS hl)
theorem rb_alenB_ok (C : rb_Cx X g o cc nL rt d) (hdg : decode cc pc = .ok (.arraylength, 1)) (hq : 200 ≤ q ∧ q < 200 + rb_nS) (k : rb_Ok X g nL res h (pc + 1) lv (.int (Int32.ofNat (rb_slL.getD (q - 200) 0)) :: st)) : rb_Ok X g nL res h pc lv (.retAddr q :: st) := by
  obtain ⟨p, l, e, R, s, m, args, below, meth, c⟩ := X
  obtain ⟨hx, hb, hml, hr, hown, hts, hlk, hR, hSc⟩ := C
  intro H locs ls hP hS hl
  have hS2 := ((hSc.2.2.1.2.2.1.1 (q - 200) (by omega)).2.2.2).kept hS.2.1
  dsimp only at hS2
  rw [show 200 + (q - 200) = q by omega] at hS2
  obtain ⟨cell, h1, h2, h3, h4, h5, h6, h7⟩ := hS2
  exact W.alen hx hb h1 h2 h5 rfl rfl hdg (k H locs ls hP hS hl)
end S2

