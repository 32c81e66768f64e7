/-! the law's loop; the four calls that may throw are asked for -/
theorem rb_sw_all {d : Int} {x : Int32} {k : Int → Prop} : ∀ {l : List (Int × Int)}, (∀ q, q ∈ l → k q.2) → k d → rb_sw l d x k
  | [], _, hd => hd
  | (key, off) :: t, hl, hd => ⟨fun _ => hl (key, off) List.mem_cons_self, fun _ => rb_sw_all (fun q hq => hl q (List.mem_cons_of_mem _ hq)) hd⟩
def lw_of : Array Int := #[197, 222, 247, 260, 273, 341, 397, 465, 526, 563, 588, 601, 650, 687, 700, 713, 738, 763, 800, 849, 874, 911, 936, 973, 998, 1035, 1072, 1085, 1110, 1123, 1160, 1173, 1186, 1199, 1236, 1249, 1262, 1275, 1324, 1361, 1386, 1399, 1436, 1461, 1486, 1511]
def lw_st : List Nat := [236, 261, 286, 299, 312, 380, 436, 504, 565, 602, 627, 640, 689, 726, 739, 752, 777, 802, 839, 888, 913, 950, 975, 1012, 1037, 1074, 1111, 1124, 1149, 1162, 1199, 1212, 1225, 1238, 1275, 1288, 1301, 1314, 1363, 1400, 1425, 1438, 1475, 1500, 1525, 1550]
theorem lw_pcs : ∀ j, j < 46 → (((39 : Nat) : Int) + lw_of.getD j 0).toNat = lw_st.getD j 0 := by decide +kernel
abbrev lw_go (X : rb_X) (g : rb_G) (Q : State → Prop) (pc : Nat) : Prop := ∀ (i : Nat) (h : rb_H) (σ : sSt) (cs ss : Nat), cs ≤ 4000 → ss ≤ 60000 → i + 4 < rb_xl g → WS σ → IC h σ → IM h σ → (∀ h σ, WS σ → IC h σ → IM h σ → rc_Ok X g 8 (cs + 1) (ss + 6) Q h 1605 (lwv i) []) → rc_Ok X g 8 cs ss Q h pc (lwv i) []
section LL
variable {X : rb_X} {g : rb_G} {Q : State → Prop}
theorem lw_tail {cs ss i : Nat} {h : rb_H} (C : lcx X g cs ss) (k : rc_Ok X g 8 cs ss Q h 23 (lwv (i + 5)) []) : rc_Ok X g 8 cs ss Q h 1605 (lwv i) [] := by
  refine rc_sound C bl_tail 1605 _ _ _ cl_tail ?_
  show rc_Ok X g 8 cs ss Q h 23 (rb_ls1 4 (.int (nI i + 5)) (lwv i)) []
  refine rc_Ok.sub (lv' := [(0, .retAddr 300), (1, .ref 0), (2, .ref 49), (3, .ref 93), (4, .int (nI i + 5))]) [1, 2, 3, 4, 0] rfl ?_
  rw [show nI i + 5 = nI (i + 5) from nI_add _ 5]
  exact k
theorem lw_more {i L : Nat} (hL : L ≤ 2560) (hi : i ≤ 2560) (h : ¬ (Int32.ofNat L - 5 < nI i)) : i + 5 ≤ L := by
  by_cases z : L < 5
  · exfalso
    have : ∀ L, L < 5 → Int32.ofNat L - 5 < 0 := by decide
    exact h (Int32.lt_of_lt_of_le (this L z) (nI_pos' (by omega)))
  · have e : Int32.ofNat L - 5 = nI (L - 5) := nI_sub (a := L) (b := 5) (by omega)
    rw [e] at h
    have : ¬ L - 5 < i := fun y => h (nI_lt y (by omega))
    omega
theorem lw_case (Hpiece : lw_go X g Q 312) (Hsquare : lw_go X g Q 380) (Hrent : lw_go X g Q 436) (Hrow : lw_go X g Q 1550) (hL : rb_xl g ≤ 2560) (CC : ∀ cs ss, cs ≤ 5000 → ss ≤ 70000 → lcx X g cs ss) {i : Nat} {h : rb_H} {σ : sSt} {cs ss : Nat} (hcs : cs ≤ 4000) (hss : ss ≤ 60000) (hb : i + 4 < rb_xl g) (hσ : WS σ) (h1 : IC h σ) (h2 : IM h σ) (k : ∀ h σ, WS σ → IC h σ → IM h σ → rc_Ok X g 8 (cs + 1) (ss + 6) Q h 1605 (lwv i) []) : ∀ j, j < 46 → rc_Ok X g 8 cs ss Q h (lw_st.getD j 0) (lwv i) []
  | 0, _ => ls_sign (CC cs ss (by omega) (by omega)) hb hL hσ h1 h2 (fun h σ w c m => rc_Ok.widen (Nat.le_succ cs) (Nat.le_add_right ss 6) (k h σ w c m))
  | 1, _ => ls_end (CC cs ss (by omega) (by omega)) hb hL hσ h1 h2 (fun h σ w c m => rc_Ok.widen (Nat.le_succ cs) (Nat.le_add_right ss 6) (k h σ w c m))
  | 2, _ => ls_pieces (CC cs ss (by omega) (by omega)) hb hL hσ h1 h2 (fun h σ w c m => rc_Ok.widen (Nat.le_succ cs) (Nat.le_add_right ss 6) (k h σ w c m))
  | 3, _ => ls_rule (CC cs ss (by omega) (by omega)) hb hL hσ h1 h2 (fun h σ w c m => rc_Ok.widen (Nat.le_succ cs) (Nat.le_add_right ss 6) (k h σ w c m))
  | 4, _ => Hpiece i h σ cs ss hcs hss hb hσ h1 h2 k
  | 5, _ => Hsquare i h σ cs ss hcs hss hb hσ h1 h2 k
  | 6, _ => Hrent i h σ cs ss hcs hss hb hσ h1 h2 k
  | 7, _ => ls_sheet (CC cs ss (by omega) (by omega)) hb hL hσ h1 h2 (fun h σ w c m => rc_Ok.widen (Nat.le_succ cs) (Nat.le_add_right ss 6) (k h σ w c m))
  | 8, _ => ls_moves (CC cs ss (by omega) (by omega)) hb hL hσ h1 h2 (fun h σ w c m => rc_Ok.widen (Nat.le_succ cs) (Nat.le_add_right ss 6) (k h σ w c m))
  | 9, _ => ls_quarters (CC cs ss (by omega) (by omega)) hb hL hσ h1 h2 (fun h σ w c m => rc_Ok.widen (Nat.le_succ cs) (Nat.le_add_right ss 6) (k h σ w c m))
  | 10, _ => ls_passes (CC cs ss (by omega) (by omega)) hb hL hσ h1 h2 (fun h σ w c m => rc_Ok.widen (Nat.le_succ cs) (Nat.le_add_right ss 6) (k h σ w c m))
  | 11, _ => ls_gives (CC cs ss (by omega) (by omega)) hb hL hσ h1 h2 (fun h σ w c m => rc_Ok.widen (Nat.le_succ cs) (Nat.le_add_right ss 6) (k h σ w c m))
  | 12, _ => ls_wages (CC cs ss (by omega) (by omega)) hb hL hσ h1 h2 (fun h σ w c m => rc_Ok.widen (Nat.le_succ cs) (Nat.le_add_right ss 6) (k h σ w c m))
  | 13, _ => ls_game (CC cs ss (by omega) (by omega)) hb hL hσ h1 h2 (fun h σ w c m => rc_Ok.widen (Nat.le_succ cs) (Nat.le_add_right ss 6) (k h σ w c m))
  | 14, _ => ls_undo (CC cs ss (by omega) (by omega)) hb hL hσ h1 h2 (fun h σ w c m => rc_Ok.widen (Nat.le_succ cs) (Nat.le_add_right ss 6) (k h σ w c m))
  | 15, _ => ls_goes (CC cs ss (by omega) (by omega)) hb hL hσ h1 h2 (fun h σ w c m => rc_Ok.widen (Nat.le_succ cs) (Nat.le_add_right ss 6) (k h σ w c m))
  | 16, _ => ls_threats (CC cs ss (by omega) (by omega)) hb hL hσ h1 h2 (fun h σ w c m => rc_Ok.widen (Nat.le_succ cs) (Nat.le_add_right ss 6) (k h σ w c m))
  | 17, _ => ls_hops (CC cs ss (by omega) (by omega)) hb hL hσ h1 h2 (fun h σ w c m => rc_Ok.widen (Nat.le_succ cs) (Nat.le_add_right ss 6) (k h σ w c m))
  | 18, _ => ls_ways (CC cs ss (by omega) (by omega)) hb hL hσ h1 h2 (fun h σ w c m => rc_Ok.widen (Nat.le_succ cs) (Nat.le_add_right ss 6) (k h σ w c m))
  | 19, _ => ls_owes (CC cs ss (by omega) (by omega)) hb hL hσ h1 h2 (fun h σ w c m => rc_Ok.widen (Nat.le_succ cs) (Nat.le_add_right ss 6) (k h σ w c m))
  | 20, _ => ls_later (CC cs ss (by omega) (by omega)) hb hL hσ h1 h2 (fun h σ w c m => rc_Ok.widen (Nat.le_succ cs) (Nat.le_add_right ss 6) (k h σ w c m))
  | 21, _ => ls_when (CC cs ss (by omega) (by omega)) hb hL hσ h1 h2 (fun h σ w c m => rc_Ok.widen (Nat.le_succ cs) (Nat.le_add_right ss 6) (k h σ w c m))
  | 22, _ => ls_needs (CC cs ss (by omega) (by omega)) hb hL hσ h1 h2 (fun h σ w c m => rc_Ok.widen (Nat.le_succ cs) (Nat.le_add_right ss 6) (k h σ w c m))
  | 23, _ => ls_cheapest (CC cs ss (by omega) (by omega)) hb hL hσ h1 h2 (fun h σ w c m => rc_Ok.widen (Nat.le_succ cs) (Nat.le_add_right ss 6) (k h σ w c m))
  | 24, _ => ls_wanders (CC cs ss (by omega) (by omega)) hb hL hσ h1 h2 (fun h σ w c m => rc_Ok.widen (Nat.le_succ cs) (Nat.le_add_right ss 6) (k h σ w c m))
  | 25, _ => ls_stays (CC cs ss (by omega) (by omega)) hb hL hσ h1 h2 (fun h σ w c m => rc_Ok.widen (Nat.le_succ cs) (Nat.le_add_right ss 6) (k h σ w c m))
  | 26, _ => ls_best (CC cs ss (by omega) (by omega)) hb hL hσ h1 h2 (fun h σ w c m => rc_Ok.widen (Nat.le_succ cs) (Nat.le_add_right ss 6) (k h σ w c m))
  | 27, _ => ls_looks (CC cs ss (by omega) (by omega)) hb hL hσ h1 h2 (fun h σ w c m => rc_Ok.widen (Nat.le_succ cs) (Nat.le_add_right ss 6) (k h σ w c m))
  | 28, _ => ls_choices (CC cs ss (by omega) (by omega)) hb hL hσ h1 h2 (fun h σ w c m => rc_Ok.widen (Nat.le_succ cs) (Nat.le_add_right ss 6) (k h σ w c m))
  | 29, _ => ls_heard (CC cs ss (by omega) (by omega)) hb hL hσ h1 h2 (fun h σ w c m => rc_Ok.widen (Nat.le_succ cs) (Nat.le_add_right ss 6) (k h σ w c m))
  | 30, _ => ls_forget (CC cs ss (by omega) (by omega)) hb hL hσ h1 h2 (fun h σ w c m => rc_Ok.widen (Nat.le_succ cs) (Nat.le_add_right ss 6) (k h σ w c m))
  | 31, _ => ls_fits (CC cs ss (by omega) (by omega)) hb hL hσ h1 h2 (fun h σ w c m => rc_Ok.widen (Nat.le_succ cs) (Nat.le_add_right ss 6) (k h σ w c m))
  | 32, _ => ls_asks (CC cs ss (by omega) (by omega)) hb hL hσ h1 h2 (fun h σ w c m => rc_Ok.widen (Nat.le_succ cs) (Nat.le_add_right ss 6) (k h σ w c m))
  | 33, _ => ls_saw (CC cs ss (by omega) (by omega)) hb hL hσ h1 h2 (fun h σ w c m => rc_Ok.widen (Nat.le_succ cs) (Nat.le_add_right ss 6) (k h σ w c m))
  | 34, _ => ls_denies (CC cs ss (by omega) (by omega)) hb hL hσ h1 h2 (fun h σ w c m => rc_Ok.widen (Nat.le_succ cs) (Nat.le_add_right ss 6) (k h σ w c m))
  | 35, _ => ls_laws (CC cs ss (by omega) (by omega)) hb hL hσ h1 h2 (fun h σ w c m => rc_Ok.widen (Nat.le_succ cs) (Nat.le_add_right ss 6) (k h σ w c m))
  | 36, _ => ls_sees (CC cs ss (by omega) (by omega)) hb hL hσ h1 h2 (fun h σ w c m => rc_Ok.widen (Nat.le_succ cs) (Nat.le_add_right ss 6) (k h σ w c m))
  | 37, _ => ls_odds (CC cs ss (by omega) (by omega)) hb hL hσ h1 h2 (fun h σ w c m => rc_Ok.widen (Nat.le_succ cs) (Nat.le_add_right ss 6) (k h σ w c m))
  | 38, _ => ls_knights (CC cs ss (by omega) (by omega)) hb hL hσ h1 h2 (fun h σ w c m => rc_Ok.widen (Nat.le_succ cs) (Nat.le_add_right ss 6) (k h σ w c m))
  | 39, _ => ls_rests (CC cs ss (by omega) (by omega)) hb hL hσ h1 h2 (fun h σ w c m => rc_Ok.widen (Nat.le_succ cs) (Nat.le_add_right ss 6) (k h σ w c m))
  | 40, _ => ls_law (CC cs ss (by omega) (by omega)) hb hL hσ h1 h2 (fun h σ w c m => rc_Ok.widen (Nat.le_succ cs) (Nat.le_add_right ss 6) (k h σ w c m))
  | 41, _ => ls_years (CC cs ss (by omega) (by omega)) hb hL hσ h1 h2 (fun h σ w c m => rc_Ok.widen (Nat.le_succ cs) (Nat.le_add_right ss 6) (k h σ w c m))
  | 42, _ => ls_keep (CC cs ss (by omega) (by omega)) hb hL hσ h1 h2 (fun h σ w c m => rc_Ok.widen (Nat.le_succ cs) (Nat.le_add_right ss 6) (k h σ w c m))
  | 43, _ => ls_again (CC cs ss (by omega) (by omega)) hb hL hσ h1 h2 (fun h σ w c m => rc_Ok.widen (Nat.le_succ cs) (Nat.le_add_right ss 6) (k h σ w c m))
  | 44, _ => ls_count (CC cs ss (by omega) (by omega)) hb hL hσ h1 h2 (fun h σ w c m => rc_Ok.widen (Nat.le_succ cs) (Nat.le_add_right ss 6) (k h σ w c m))
  | 45, _ => Hrow i h σ cs ss hcs hss hb hσ h1 h2 k
  | n + 46, hj => absurd hj (by omega)
theorem lw_switch (Hpiece : lw_go X g Q 312) (Hsquare : lw_go X g Q 380) (Hrent : lw_go X g Q 436) (Hrow : lw_go X g Q 1550) (hL : rb_xl g ≤ 2560) (CC : ∀ cs ss, cs ≤ 5000 → ss ≤ 70000 → lcx X g cs ss) {i : Nat} {h : rb_H} {σ : sSt} {cs ss : Nat} (hcs : cs ≤ 4000) (hss : ss ≤ 60000) (hb : i + 4 < rb_xl g) (hσ : WS σ) (h1 : IC h σ) (h2 : IM h σ) (k : ∀ h σ, WS σ → IC h σ → IM h σ → rc_Ok X g 8 (cs + 1) (ss + 6) Q h 1605 (lwv i) []) : rc_Ok X g 8 cs ss Q h 32 (lwv i) [] := by
  refine rc_sound (CC cs ss (by omega) (by omega)) bl_switch 32 _ _ _ cl_switch (And.intro (And.intro rfl (oob_n (by omega) (by omega))) ?_)
  refine rb_sw_all (fun q hq => ?_) (rc_Ok.widen (Nat.le_succ cs) (Nat.le_add_right ss 6) (k h σ hσ h1 h2))
  obtain ⟨j, hj, rfl⟩ := List.mem_map.mp hq
  have hj : j < 46 := List.mem_range.mp hj
  have e : rc_Ok X g 8 cs ss Q h (lw_st.getD j 0) (lwv i) [] := lw_case Hpiece Hsquare Hrent Hrow hL CC hcs hss hb hσ h1 h2 k j hj
  rw [← lw_pcs j hj] at e
  exact e
theorem lw_loop (Hpiece : lw_go X g Q 312) (Hsquare : lw_go X g Q 380) (Hrent : lw_go X g Q 436) (Hrow : lw_go X g Q 1550) (hL : rb_xl g ≤ 2560) (CC : ∀ cs ss, cs ≤ 5000 → ss ≤ 70000 → lcx X g cs ss) (hend : ∀ h i cs ss, cs ≤ 5000 → ss ≤ 70000 → rc_Ok X g 8 cs ss Q h 1611 (lwv i) []) : ∀ (n i : Nat) (h : rb_H) (σ : sSt), rb_xl g ≤ i + 5 * n → i ≤ rb_xl g → WS σ → IC h σ → IM h σ → rc_Ok X g 8 (1000 + i) (30000 + 6 * i) Q h 23 (lwv i) []
  | n, i, h, σ, hn, hi, hσ, h1, h2 => by
    refine rc_sound (CC _ _ (by omega) (by omega)) bl_head 23 _ _ _ cl_head (And.intro rfl (And.intro (fun _ => hend h i _ _ (by omega) (by omega)) (fun z => ?_)))
    have z : ¬ (Int32.ofNat (rb_xl g) - 5 < nI i) := z
    have hb := lw_more hL (by omega) z
    obtain ⟨n, rfl⟩ : ∃ k, n = k + 1 := ⟨n - 1, by omega⟩
    refine lw_switch Hpiece Hsquare Hrent Hrow hL CC (by omega) (by omega) (by omega) hσ h1 h2 (fun h' σ' w c m => ?_)
    exact rc_Ok.widen (show 1000 + i + 1 ≤ 1000 + (i + 5) by omega) (show 30000 + 6 * i + 6 ≤ 30000 + 6 * (i + 5) by omega) (lw_tail (CC _ _ (by omega) (by omega)) (lw_loop Hpiece Hsquare Hrent Hrow hL CC hend n (i + 5) h' σ' (by omega) (by omega) w c m))
end LL
