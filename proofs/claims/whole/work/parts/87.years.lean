/-! many years -/
def nD (s : Int32) : Int32 := s * 1103515245 + 12345
theorem nD_C (s : Int32) : fB_nextDraw s = nD s := by
  unfold fB_nextDraw fB_nextDraw_0 nD
  rfl
theorem rb_ltE {X Y : Type} (v : X) (f : X → Y) : rb_lt v f = f v := Eq.trans rfl (Eq.refl _)
def dw (s : Int32) : Nat := s.toBitVec.toNat / 65536
theorem dw_lt (s : Int32) : dw s < 65536 := by
  unfold dw
  have := s.toBitVec.isLt
  omega
theorem ush16 (s : Int32) : rb_ushr s 16 = nI (dw s) := by
  apply Int32.toBitVec_inj.1
  apply BitVec.eq_of_toNat_eq
  have := i_ush (k := 16) (by omega) s
  rw [show (nI 16) = (16 : Int32) from rfl] at this
  rw [this]
  show _ = (BitVec.ofNat 32 (dw s)).toNat
  have h := dw_lt s
  rw [BitVec.toNat_ofNat, Nat.mod_eq_of_lt (by omega)]
  rfl
theorem C_lot (s : Int32) {n : Nat} (h1 : 1 ≤ n) (h2 : n < 1000) : fB_lot s (nI n) = some (nI (dw s % n)) := by
  have := dw_lt s
  have h0 : ¬ nI n = 0 := fun z => by
    have := (nI_eq (a := n) (b := 0) (by omega) (by omega)).mp z
    omega
  unfold fB_lot fB_lot_0
  rw [if_pos (show (1 : Int32) ≤ nI n from nI_le (a := 1) h1 (by omega)), if_neg h0, ush16, show rb_rem (nI (dw s)) (nI n) = nI (dw s % n) from pk_rem (by omega) (by omega) (by omega)]
theorem M_drawN {h : rb_H} {s : Int32} (hs : rb_hF h 49 41 = s) {n : Nat} (h1 : 1 ≤ n) (h2 : n < 1000) : fM_draw (nI n) h = some (nI (dw (nD s) % n), rb_sF h 49 41 (nD s)) := by
  have := dw_lt (nD s)
  have h0 : ¬ nI n = 0 := fun z => by
    have := (nI_eq (a := n) (b := 0) (by omega) (by omega)).mp z
    omega
  unfold fM_draw fM_draw_0
  rw [if_neg h0, hs, show s * 1103515245 + 12345 = nD s from rfl, hF_sF, if_pos ⟨rfl, rfl⟩, ush16, show rb_rem (nI (dw (nD s))) (nI n) = nI (dw (nD s) % n) from pk_rem (by omega) (by omega) (by omega)]
def yeS (ρ : sRu) (q : Int32 × sBd × Int32) : Int32 × sBd × Int32 :=
  if dw (nD q.1) % 4 = 3 then (nD q.1, qdB ρ q.2.1, q.2.2)
  else if bN q.2.1 = 0 then (nD q.1, q.2.1, q.2.2)
  else if canM q.2.1 (dw (nD (nD q.1)) % bN q.2.1) (dw (nD (nD (nD q.1))) % 25) = true then (nD (nD (nD q.1)), mvB q.2.1 (dw (nD (nD q.1)) % bN q.2.1) (dw (nD (nD (nD q.1))) % 25), q.2.2 + 1)
  else (nD (nD (nD q.1)), q.2.1, q.2.2)
def yeR (ρ : sRu) (B : sBd) (s : Int32) : Nat → Int32 × sBd × Int32
  | 0 => (s, B, 0)
  | k + 1 => yeS ρ (yeR ρ B s k)
theorem yeS_ok {ρ : sRu} {q : Int32 × sBd × Int32} {M : Int32} (hW : WF q.2.1) (hM : bM q.2.1 = M + q.2.2) : WF (yeS ρ q).2.1 ∧ bM (yeS ρ q).2.1 = M + (yeS ρ q).2.2 ∧ bN (yeS ρ q).2.1 = bN q.2.1 := by
  unfold yeS
  by_cases c1 : dw (nD q.1) % 4 = 3
  · rw [if_pos c1]; exact ⟨qdB_WF hW, hM, rfl⟩
  · rw [if_neg c1]
    by_cases c2 : bN q.2.1 = 0
    · rw [if_pos c2]; exact ⟨hW, hM, rfl⟩
    · rw [if_neg c2]
      by_cases c3 : canM q.2.1 (dw (nD (nD q.1)) % bN q.2.1) (dw (nD (nD (nD q.1))) % 25) = true
      · rw [if_pos c3]
        have hp : dw (nD (nD q.1)) % bN q.2.1 < bN q.2.1 := Nat.mod_lt _ (by omega)
        have hs : dw (nD (nD (nD q.1))) % 25 < 25 := Nat.mod_lt _ (by omega)
        refine ⟨mvB_WF hW hp hs (canM_ne hW hp hs c3), ?_, mvB_N _ _ _⟩
        show bM (mv3 q.2.1 _ _) + 1 = M + (q.2.2 + 1)
        have : bM (mv3 q.2.1 (dw (nD (nD q.1)) % bN q.2.1) (dw (nD (nD (nD q.1))) % 25)) = bM q.2.1 := by
          unfold mv3 mv1
          split <;> split <;> rfl
        rw [this, hM, Int32.add_assoc]
      · rw [if_neg c3]; exact ⟨hW, hM, rfl⟩
theorem yeR_ok {ρ : sRu} {B : sBd} {s : Int32} (hW : WF B) : ∀ k, WF (yeR ρ B s k).2.1 ∧ bM (yeR ρ B s k).2.1 = bM B + (yeR ρ B s k).2.2 ∧ bN (yeR ρ B s k).2.1 = bN B
  | 0 => ⟨hW, (Int32.add_zero _).symm, rfl⟩
  | k + 1 => by
    obtain ⟨a, b, c⟩ := yeR_ok (ρ := ρ) (s := s) hW k
    obtain ⟨a', b', c'⟩ := yeS_ok (ρ := ρ) a b
    exact ⟨a', b', c'.trans c⟩
theorem holds_0 : ∀ s, s < 25 → fB_holds 0 (nI s) = false := by decide +kernel
def yeC : List Nat := [7, 10, 106, 107, 108, 109, 110, 111]
theorem C_yearsL {h : rb_H} {B : sBd} {ρ : sRu} (hR : RS h 106 B) (hW : WF B) (hU : RuC h 5 ρ) {n : Nat} (hn : n ≤ 60) (s : Int32) : ∃ x, rb_iter rb_fuel (fun q => fB_years_29b (nI n) q.1 q.2.1 q.2.2) (s, (0 : Int32), h) = some x ∧ (RS x 106 (yeR ρ B s n).2.1 ∧ Ag yeC h x) := by
  refine rb_runP (fun k q => q.1 = (yeR ρ B s k).1 ∧ q.2.1 = nI k ∧ RS q.2.2 106 (yeR ρ B s k).2.1 ∧ Ag yeC h q.2.2) _ n ⟨rfl, rfl, hR, Ag_refl _ _⟩ (by omega) ?_ ?_
  · rintro k ⟨t, z, g⟩ hk ⟨e1, e2, hRk, hA⟩
    dsimp only at e1 e2 hRk hA ⊢
    subst e1
    subst e2
    obtain ⟨hWk, -, -⟩ := yeR_ok (ρ := ρ) (s := s) hW k
    have Uk : RuC g 5 ρ := RuCn_ag hU hA (by decide)
    have hN8 := hWk.1
    have nx : yeR ρ B s (k + 1) = yeS ρ (yeR ρ B s k) := rfl
    rw [nx]
    generalize yeR ρ B s k = q at *
    unfold fB_years_29b fB_years_146l29 yeS
    rw [if_neg (nI_ge hk (by omega))]
    simp only [rb_ltE, nD_C]
    generalize nD q.1 = s1
    generalize nD s1 = s2
    generalize nD s2 = s3
    have l4 : fB_lot s1 4 = some (nI (dw s1 % 4)) := C_lot s1 (n := 4) (by omega) (by omega)
    have b4 : dw s1 % 4 < 4 := Nat.mod_lt _ (by decide)
    have l25 : fB_lot s3 25 = some (nI (dw s3 % 25)) := C_lot s3 (n := 25) (by omega) (by omega)
    have hs : dw s3 % 25 < 25 := Nat.mod_lt _ (by decide)
    have lN : ¬ bN q.2.1 = 0 → fB_lot s2 (nI (bN q.2.1)) = some (nI (dw s2 % bN q.2.1)) ∧ dw s2 % bN q.2.1 < bN q.2.1 := fun c => ⟨C_lot s2 (by omega) (by omega), Nat.mod_lt _ (Nat.pos_of_ne_zero c)⟩
    generalize dw s1 % 4 = t4 at l4 b4 ⊢
    generalize dw s3 % 25 = s at l25 hs ⊢
    generalize dw s2 % bN q.2.1 = p at lN ⊢
    rw [l4, Option.bind_some, nI_1]
    have e3 : nI (t4) = (3 : Int32) ↔ t4 = 3 := nI_eq (b := 3) (by omega) (by omega)
    by_cases c1 : t4 = 3
    · rw [if_pos (e3.mpr c1), if_pos c1]
      obtain ⟨g1, a1, a2, a3⟩ := S_quarterDay (o := 106) (ru := 5) hRk hWk Uk (by decide) (by decide) (by omega)
      rw [a1]
      exact ⟨_, rfl, rfl, rfl, a2, Ag_trans hA (AgS (by decide) a3)⟩
    · rw [if_neg (fun z => c1 (e3.mp z)), if_neg c1, hRk.1]
      by_cases c2 : bN q.2.1 = 0
      · rw [if_pos (show nI (bN q.2.1) ≤ (0 : Int32) from by rw [c2]; decide), if_pos c2]
        exact ⟨_, rfl, rfl, rfl, hRk, hA⟩
      · obtain ⟨lN, hp⟩ := lN c2
        rw [if_neg (show ¬ nI (bN q.2.1) ≤ (0 : Int32) from nI_ge (b := bN q.2.1) (show 0 < bN q.2.1 by omega) (by omega)), if_neg c2]
        rw [lN, Option.bind_some, l25, Option.bind_some]
        obtain ⟨u, b, o1', o2', o3', o4'⟩ := C_open1 hRk hWk hp
        have o5 := o4' _ hs
        rw [o1', Option.bind_some]
        cases b
        · rw [if_neg (by decide)]
          rw [o3' rfl, holds_0 _ hs] at o5
          rw [← o5, if_neg (by decide)]
          exact ⟨_, rfl, rfl, rfl, hRk, hA⟩
        · rw [if_pos rfl, o2' rfl, Option.bind_some, o5]
          by_cases c3 : canM q.2.1 (p) (s) = true
          · rw [if_pos c3, if_pos c3]
            obtain ⟨g1, a1, a2, a3⟩ := C_move (o := 106) hRk hWk hp hs (canM_ne hWk hp hs c3) (by decide)
            rw [a1]
            exact ⟨_, rfl, rfl, rfl, a2, Ag_trans hA (AgS (by decide) a3)⟩
          · rw [if_neg c3, if_neg c3]
            exact ⟨_, rfl, rfl, rfl, hRk, hA⟩
  · rintro ⟨t, z, g⟩ ⟨e1, e2, hRk, hA⟩
    dsimp only at e1 e2 hRk hA ⊢
    subst e2
    unfold fB_years_29b
    rw [if_pos (nI_le (Nat.le_refl _) (by omega))]
    exact ⟨_, rfl, hRk, hA⟩
