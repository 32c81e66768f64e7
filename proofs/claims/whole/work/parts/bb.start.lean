/-! what the Statement gives of the start -/
def st_T : Cond := Jvm.Cond.and given_1 narrow_1
theorem st_fl {args : Array Value} {s : State} (h : st_T.before args s = true) (i : Nat) {w : Cond} (hw : (flatC st_T)[i]? = some w) : w.before args s = true := flat_of_before _ h w (List.mem_of_getElem? hw)
def st_a0 : List Nat := [54, 10, 21, 32, 43, 90, 97, 82]
def st_s0 : List Nat := [115, 126, 135, 153, 165, 176, 186, 200, 213, 225, 251, 288, 317, 378]
abbrev st_st (k : Nat) : Term := .static "RentBoard" (rb_sn k) "[I"
abbrev st_tm (i : Nat) : Term := .string (rb_ss i).1 (rb_ss i).2.1
theorem st_arr : ∀ k, k < 8 → (flatC st_T)[st_a0.getD k 0]? = some (.arrayOf (st_st k) .int) := by decide +kernel
theorem st_len : ∀ k, k < 8 → (flatC st_T)[st_a0.getD k 0 + 1]? = some (.eq (.length (st_st k)) (.int (Int32.ofNat (rb_sl k)))) := by decide +kernel
theorem st_el : ∀ k, k < 8 → ∀ j, j < rb_sl k → (flatC st_T)[st_a0.getD k 0 + 2 + j]? = some (.eq (.elem (st_st k) (.int (Int32.ofNat j))) (.int (rb_sv k j))) := by decide +kernel
theorem st_sex : ∀ i, i < 14 → (flatC st_T)[st_s0.getD i 0]? = some (.exactly (st_tm i) "java/lang/String") := by decide +kernel
theorem st_sco : ∀ i, i < 14 → (flatC st_T)[st_s0.getD i 0 + 1]? = some (.eq (.field (st_tm i) "java/lang/String" "coder" "B") (.int 0)) := by decide +kernel
theorem st_sar : ∀ i, i < 14 → (flatC st_T)[st_s0.getD i 0 + 2]? = some (.arrayOf (.field (st_tm i) "java/lang/String" "value" "[B") .byte) := by decide +kernel
theorem st_sle : ∀ i, i < 14 → (flatC st_T)[st_s0.getD i 0 + 3]? = some (.eq (.length (.field (st_tm i) "java/lang/String" "value" "[B")) (.int (Int32.ofNat (rb_slL.getD i 0)))) := by decide +kernel
theorem st_sel : ∀ i, i < 14 → ∀ j, j < rb_slL.getD i 0 → (flatC st_T)[st_s0.getD i 0 + 4 + j]? = some (.eq (.elem (.field (st_tm i) "java/lang/String" "value" "[B") (.int (Int32.ofNat j))) (.int ((rb_sbL.getD i []).getD j 0))) := by decide +kernel
theorem st_sne : ∀ i, i < 14 → ∀ j, j < i → (flatC st_T)[st_s0.getD i 0 + 4 + rb_slL.getD i 0 + j]? = some (.not (.eq (st_tm j) (st_tm i))) := by decide +kernel
theorem st_sr : ∀ i, i < 14 → Cond.stringRef (rb_ss i).1 (rb_ss i).2.1 (rb_ss i).2.2 ∈ lw_tbl
  | 0, _ => (rb_v1 70 rfl)
  | 1, _ => (rb_v2 101 rfl)
  | 2, _ => (rb_v2 107 rfl)
  | 3, _ => (rb_v4 13 rfl)
  | 4, _ => (rb_v4 17 rfl)
  | 5, _ => (rb_v4 18 rfl)
  | 6, _ => (rb_v4 19 rfl)
  | 7, _ => (rb_v4 20 rfl)
  | 8, _ => (rb_v4 21 rfl)
  | 9, _ => (rb_v5 114 rfl)
  | 10, _ => (rb_v5 140 rfl)
  | 11, _ => (rb_v5 148 rfl)
  | 12, _ => (rb_v5 156 rfl)
  | 13, _ => (rb_v5 164 rfl)
  | n + 14, h => absurd h (by omega)
theorem st_lst : ∀ k, k < 8 → Cond.laysStatic "RentBoard" (rb_sn k) "[I" ∈ lw_tbl
  | 0, _ => (rb_v3 201 rfl)
  | 1, _ => (rb_v3 116 rfl)
  | 2, _ => (rb_v3 118 rfl)
  | 3, _ => (rb_v3 129 rfl)
  | 4, _ => (rb_v3 131 rfl)
  | 5, _ => (rb_v5 27 rfl)
  | 6, _ => (rb_v5 29 rfl)
  | 7, _ => (rb_v4 179 rfl)
  | n + 8, h => absurd h (by omega)
theorem st_inst : ∀ c, c < 10 → Cond.instantiable (rb_cq c).1 (rb_cq c).2.2 ∈ rb_tbl
  | 0, _ => (rb_w1 184 rfl rfl)
  | 1, _ => (rb_w1 239 rfl rfl)
  | 2, _ => (rb_w1 164 rfl rfl)
  | 3, _ => (rb_w1 49 rfl rfl)
  | 4, _ => (rb_w1 65 rfl rfl)
  | 5, _ => (rb_w1 116 rfl rfl)
  | 6, _ => (rb_w1 33 rfl rfl)
  | 7, _ => (rb_w1 206 rfl rfl)
  | 8, _ => (rb_w1 25 rfl rfl)
  | 9, _ => (rb_w5 166 rfl rfl)
  | n + 10, h => absurd h (by omega)
theorem st_ac {args : Array Value} {s : State} {ty : FieldType} (h : (Cond.arrayClass ty).before args s = true) : ∃ cA : ClassId, ArrOfT s cA ty ∧ s.vm.findClass ("[" ++ ty.toString) = some cA := by
  obtain ⟨c, k, comp, h1, h2, h3⟩ := Cond.arrayClass_spec h
  exact ⟨c, fun N z => ⟨(fun k h => by cases h), k, h2, comp, h3⟩, h1⟩
theorem st_ks {s : State} {args : Array Value} (hg : ∀ w ∈ rb_tbl, w.before args s = true) : ∃ ks : Nat → ClassId × (Nat → Nat), ∀ c, c < 10 → u_Kn s (rb_cq c).1 (rb_cq c).2.1 (rb_cq c).2.2 (ks c).1 (ks c).2 := by
  obtain ⟨c0, i0, h0⟩ := u_known hg (rb_in 0 (by decide)) (hg _ (st_inst 0 (by decide)))
  have h : ∀ c, ∃ r : ClassId × (Nat → Nat), c < 10 → u_Kn s (rb_cq c).1 (rb_cq c).2.1 (rb_cq c).2.2 r.1 r.2 := fun c => by
    by_cases hc : c < 10
    · obtain ⟨a, i, h⟩ := u_known hg (rb_in c hc) (hg _ (st_inst c hc))
      exact ⟨(a, i), fun _ => h⟩
    · exact ⟨(c0, i0), fun h => absurd h hc⟩
  obtain ⟨ad, had⟩ := Classical.axiomOfChoice h
  exact ⟨ad, had⟩
theorem st_K {s : State} {args : Array Value} (hg : ∀ w ∈ rb_tbl, w.before args s = true) (hAO : va_AO "RentBoard$State" s) (hAA : rm_AA s) : ∃ (D : va_G) (tc : Nat → ClassId), ∀ (B : Nat) (as : Nat → Nat) (so : Bool) (L : Nat) (xs : Nat → Int32), va_K (rb_D (wo_g D tc B as so L xs)) rb_cl (rb_tys (wo_g D tc B as so L xs)) s := by
  obtain ⟨ks, hks⟩ := st_ks hg
  obtain ⟨c10, a10, n10⟩ := st_ac (hg _ (show Cond.arrayClass .int ∈ rb_tbl from (rb_w1 112 rfl rfl)))
  obtain ⟨c11, a11, n11⟩ := st_ac (hg _ (show Cond.arrayClass .boolean ∈ rb_tbl from (rb_w1 113 rfl rfl)))
  obtain ⟨c12, a12, n12⟩ := st_ac (hg _ (show Cond.arrayClass .char ∈ rb_tbl from (rb_w1 47 rfl rfl)))
  obtain ⟨c13, a13, n13⟩ := st_ac (hg _ (show Cond.arrayClass .byte ∈ rb_tbl from (rb_w1 114 rfl rfl)))
  obtain ⟨c14, a14, n14⟩ := st_ac (hg _ (show Cond.arrayClass .long ∈ rb_tbl from (rb_w1 63 rfl rfl)))
  obtain ⟨p15, c15, k15, o1, o2, o3, o4, o5⟩ := Cond.arrayOver_spec hAO
  obtain ⟨p16, c16, k16, q1, q2, q3, q4, q5⟩ := rm_AA_spec hAA
  refine ⟨(fun c => (ks c).1, fun c => (ks c).2), (fun t => match t with | 10 => c10 | 11 => c11 | 12 => c12 | 13 => c13 | 14 => c14 | 15 => c15 | _ => c16), fun B as so L xs => ⟨fun c q hq => ?_, fun k q hk => ?_⟩⟩
  · have hc : c < 10 := (List.getElem?_eq_some_iff.mp hq).1
    rw [rb_cl_at c hc] at hq
    cases hq
    exact hks c hc
  · match k, hk with
    | 0, hk => cases hk; exact ⟨a10, n10⟩
    | 1, hk => cases hk; exact ⟨a11, n11⟩
    | 2, hk => cases hk; exact ⟨a12, n12⟩
    | 3, hk => cases hk; exact ⟨a13, n13⟩
    | 4, hk => cases hk; exact ⟨a14, n14⟩
    | 5, hk => cases hk; exact ⟨fun N z => ⟨(fun k h => by cases h), k15, o3, p15, o4⟩, k15, p15, o3, o4, o1, o5⟩
    | 6, hk => cases hk; exact ⟨fun N z => ⟨(fun k h => by cases h), k16, q3, p16, q4⟩, q5⟩
    | k + 7, hk => exact absurd (List.getElem?_eq_some_iff.mp hk).1 (by show ¬ (k + 7 < 7); omega)
theorem st_tabs {s : State} {args : Array Value} {A : Nat → Prop} (hts : ∀ w ∈ lw_tbl, w.before args s = true) (hg : ∀ w ∈ rb_tbl, w.before args s = true) (hT : st_T.before args s = true) (hA : ∀ a : Nat, a < s.heap.size → ¬ A a) : ∃ ta : Nat → Nat, ∀ k, k < 8 → va_Z "RentBoard" (rb_sn k) "[I" (.ref (ta k)) A s s.heap ∧ va_T .int (ta k) (rb_sl k) (fun j => .int (rb_sv k j)) A s s.heap := by
  have h : ∀ k, ∃ t : Nat, k < 8 → va_Z "RentBoard" (rb_sn k) "[I" (.ref t) A s s.heap ∧ va_T .int t (rb_sl k) (fun j => .int (rb_sv k j)) A s s.heap := fun k => by
    by_cases hk : k < 8
    · have hN : ∀ k, k < 8 → rb_sl k < 2 ^ 31 := by decide +kernel
      obtain ⟨t, e, hT2⟩ := va_Tof (f := fun j => .int (rb_sv k j)) (A := A) (hN k hk) (st_fl hT _ (st_arr k hk)) (va_eqt (st_fl hT _ (st_len k hk))) (fun j hj => va_eqt (st_fl hT _ (st_el k hk j hj))) hA
      exact ⟨t, fun _ => ⟨va_Zref (hts _ (st_lst k hk)) (hg _ (rb_w1 1 rfl rfl)) e hA, hT2⟩⟩
    · exact ⟨0, fun h => absurd h hk⟩
  obtain ⟨ad, had⟩ := Classical.axiomOfChoice h
  exact ⟨ad, had⟩
theorem st_strs {s : State} {args : Array Value} {A : Nat → Prop} (hT : st_T.before args s = true) (hA : ∀ a : Nat, a < s.heap.size → ¬ A a) : ∃ adK adV : Nat → Nat, vk_S rb_nS rb_slL rb_sbL adK adV A s s.heap ∧ ∀ i : Nat, i < rb_nS → (st_tm i).eval args s none [] s = some (.ref (adK i)) := by
  have hN : ∀ i, i < 14 → rb_slL.getD i 0 < 2 ^ 31 := by decide +kernel
  exact vk_Sof (tm := st_tm) hN (fun i hi => st_fl hT _ (st_sex i hi)) (fun i hi => st_fl hT _ (st_sco i hi)) (fun i hi => st_fl hT _ (st_sar i hi)) (fun i hi => st_fl hT _ (st_sle i hi)) (fun i hi j hj => st_fl hT _ (st_sel i hi j hj))
    (fun i j hi hj hij => by
      rcases Nat.lt_or_gt_of_ne hij with h | h
      · exact Or.inl (st_fl hT _ (st_sne j hj i h))
      · exact Or.inr (st_fl hT _ (st_sne i hi j h))) hA
def st_as (ta adK adV : Nat → Nat) (b sr : Nat) (x : Nat) : Nat := if x < 100 then ta x else if x < 200 then adK (x - 100) else if x < 300 then adV (x - 200) else if x = 300 then b else sr
theorem st_all {p : Program} {s : State} {m : MethodId} {meth : Method} {c : Code} {b L : Nat} {xs : Nat → Int32} (C0 : lw_At p s m meth c b L xs) : ∃ (D : va_G) (tc : Nat → ClassId) (as : Nat → Nat) (so : Bool), as 300 = b ∧ rm_C (wo_g D tc s.heap.size as so L xs) s.heap.size s ∧ rb_Sc (wo_g D tc s.heap.size as so L xs) s ∧ rx_Z (rc_N s) s := by
  obtain ⟨hx, hb, hr, hml, hown, hts, hX, hbl, hlocks, hgv⟩ := id C0
  have hg : ∀ w ∈ rb_tbl, w.before #[Value.ref b] s = true := fun w h => hts w (List.mem_filter.mp h).1
  have hT : st_T.before #[Value.ref b] s = true := hgv
  have hA : ∀ a : Nat, a < s.heap.size → ¬ (rm_Nw s.heap.size) a := fun a h z => absurd h (Nat.not_lt.mpr z)
  have hAO : va_AO "RentBoard$State" s := va_AO.of (hts _ (show Cond.arrayOver (.object "RentBoard$State") ∈ lw_tbl from (rb_v1 170 rfl)))
  have hAA : rm_AA s := hts _ (show Cond.arrayOver (.array .int) ∈ lw_tbl from (rb_v1 212 rfl))
  obtain ⟨D, tc, hK⟩ := st_K hg hAO hAA
  obtain ⟨ta, hta⟩ := st_tabs hts hg hT hA
  obtain ⟨adK, adV, ⟨hS1, hS2⟩, hSe⟩ := st_strs hT hA
  have hsi : va_Zq "jdk/internal/util/Preconditions" "SIOOBE_FORMATTER" "Ljava/util/function/BiFunction;" (rm_Nw s.heap.size) s s.heap := va_Zqof (hts _ (rb_v2 157 rfl)) (hg _ (rb_w1 16 rfl rfl)) (st_fl hT 5 rfl) hA
  obtain ⟨so, sr, hso⟩ : ∃ (so : Bool) (sr : Nat), va_Z "jdk/internal/util/Preconditions" "SIOOBE_FORMATTER" "Ljava/util/function/BiFunction;" (match so with | true => .null | false => .ref sr) (rm_Nw s.heap.size) s s.heap := by
    rcases hsi with h | ⟨t, h⟩
    · exact ⟨true, 0, h⟩
    · exact ⟨false, t, h⟩
  have e0 : ∀ k, k < 8 → st_as ta adK adV b sr k = ta k := fun k hk => if_pos (by omega)
  have e1 : ∀ i, i < 14 → st_as ta adK adV b sr (100 + i) = adK i := fun i hi => by
    unfold st_as
    rw [if_neg (by omega), if_pos (by omega), Nat.add_sub_cancel_left]
  have e2 : ∀ i, i < 14 → st_as ta adK adV b sr (200 + i) = adV i := fun i hi => by
    unfold st_as
    rw [if_neg (by omega), if_neg (by omega), if_pos (by omega), Nat.add_sub_cancel_left]
  have e3 : st_as ta adK adV b sr 300 = b := rfl
  have e4 : st_as ta adK adV b sr 301 = sr := rfl
  have hStA : rb_StA (wo_g D tc s.heap.size (st_as ta adK adV b sr) so L xs) (rm_Nw s.heap.size) s s.heap := by
    refine ⟨fun k hk => ?_, va_Zof (hts _ (rb_v1 80 rfl)) (hg _ (rb_w1 5 rfl rfl)) (va_eqi (st_fl hT 4 rfl)) hA, ⟨fun i hi => ?_, fun i j hi hj e => ?_⟩, ?_, ?_, ?_⟩
    · have h := hta k hk
      rw [← e0 k hk] at h
      exact h
    · have h := hS1 i hi
      rw [← e1 i hi, ← e2 i hi] at h
      exact h
    · have e : st_as ta adK adV b sr (100 + i) = st_as ta adK adV b sr (100 + j) := e
      rw [e1 i hi, e1 j hj] at e
      exact hS2 i j hi hj e
    · cases so
      · exact hso
      · exact hso
    · exact hX
    · exact ⟨hbl, hA b hbl⟩
  have hNx : rb_Nx s := fun o i y host hm => va_Nw.of rfl (hts _ hm)
  have hRk : rb_Rk (wo_g D tc s.heap.size (st_as ta adK adV b sr) so L xs) s := fun i hi => by
    have h := hSe i hi
    rw [← e1 i hi] at h
    exact vk_R.of (hts _ (st_sr i hi)) h
  refine ⟨D, tc, st_as ta adK adV b sr, so, e3, ⟨hK _ _ _ _ _, hNx, hStA, hRk, hAO, hAA⟩, ⟨hK _ _ _ _ _, wo_Dj, hStA.narrow (fun q h => ?_), hNx, hRk⟩, ⟨⟨vx_Zqof (hts _ (rb_v5 102 rfl)) (hg _ (rb_w1 18 rfl rfl)) (st_fl hT 103 rfl) hA, vx_Zqof (hts _ (rb_v5 104 rfl)) (hg _ (rb_w1 18 rfl rfl)) (st_fl hT 104 rfl) hA⟩, va_Nw.of rfl (hts _ (rb_v5 79 rfl)), va_Nw.of rfl (hts _ (rb_v5 81 rfl)), va_Nw.of rfl (hts _ (rb_v5 83 rfl)), va_Nw.of rfl (hts _ (rb_v5 77 rfl))⟩⟩
  obtain ⟨i, -, e⟩ := h
  show s.heap.size ≤ q
  rw [e]
  exact Nat.le_add_right _ _
