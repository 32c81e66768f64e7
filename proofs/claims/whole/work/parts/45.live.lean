/-! n quarter days -/
def qdn (ρ : sRu) (B : sBd) : Nat → sBd
  | 0 => B
  | n + 1 => qdB ρ (qdn ρ B n)
theorem qdn_WF {ρ : sRu} {B : sBd} (hW : WF B) : ∀ n, WF (qdn ρ B n)
  | 0 => hW
  | n + 1 => qdB_WF (qdn_WF hW n)
theorem qdn_N (ρ : sRu) (B : sBd) : ∀ n, bN (qdn ρ B n) = bN B
  | 0 => rfl
  | n + 1 => qdn_N ρ B n
theorem qdn_S (ρ : sRu) (B : sBd) : ∀ n, bS (qdn ρ B n) = bS B
  | 0 => rfl
  | n + 1 => qdn_S ρ B n
theorem qdn_K (ρ : sRu) (B : sBd) : ∀ n, bK (qdn ρ B n) = bK B
  | 0 => rfl
  | n + 1 => qdn_K ρ B n
theorem qdn_T (ρ : sRu) (B : sBd) : ∀ n, bT (qdn ρ B n) = bT B
  | 0 => rfl
  | n + 1 => qdn_T ρ B n
theorem qdn_M (ρ : sRu) (B : sBd) : ∀ n, bM (qdn ρ B n) = bM B
  | 0 => rfl
  | n + 1 => qdn_M ρ B n
def paidAll (ρ : sRu) (B : sBd) (n : Nat) : Nat := fb_sm (fun k => fb_sm (paidN ρ (qdn ρ B k)) (bN B)) n
def outAll (ρ : sRu) (B : sBd) (n : Nat) : Nat := fb_sm (fun k => fb_ct (goesOutB ρ (qdn ρ B k)) (bN B)) n
/-- how many stand -/
def stN (B : sBd) : Nat := fb_ct (fun i => decide (bP B i ≠ 25)) (bN B)
theorem stN_qd (ρ : sRu) (B : sBd) : stN B = stN (qdB ρ B) + fb_ct (goesOutB ρ B) (bN B) := by
  unfold stN
  show fb_ct _ (bN B) = fb_ct _ (bN B) + _
  rw [← fb_ct_or]
  · refine fb_ct_cong (fun k hk => ?_)
    show _ = (decide ((if goesOutB ρ B k = true then 25 else bP B k) ≠ 25) || goesOutB ρ B k)
    by_cases g : goesOutB ρ B k = true
    · rw [if_pos g, g]
      have : bP B k ≠ 25 := fun z => by rw [goesOut_out z] at g; cases g
      simp [this]
    · rw [if_neg g]
      have g : goesOutB ρ B k = false := by cases h : goesOutB ρ B k <;> simp_all
      rw [g, Bool.or_false]
  · intro k hk ⟨h1, h2⟩
    have h1 : decide ((if goesOutB ρ B k = true then 25 else bP B k) ≠ 25) = true := h1
    rw [if_pos h2] at h1
    simp at h1
theorem stN_qdn (ρ : sRu) (B : sBd) : ∀ n, stN B = stN (qdn ρ B n) + outAll ρ B n
  | 0 => rfl
  | n + 1 => by
    have ih := stN_qdn ρ B n
    have e := stN_qd ρ (qdn ρ B n)
    rw [qdn_N] at e
    show stN B = stN (qdB ρ (qdn ρ B n)) + (outAll ρ B n + fb_ct (goesOutB ρ (qdn ρ B n)) (bN B))
    omega
section
variable {h : rb_H} {o a ru : Nat} {B : sBd} {ρ : sRu}
theorem S_standing (hR : RS h o B) (hW : WF B) : fS_standing o h = some (nI (stN B)) := by
  have h8 := hW.1
  unfold fS_standing fS_standing_0
  rw [S_standingPieces hR hW]
  simp only [Option.bind_some, rb_lt, bc_bits _ (show bN B ≤ 32 by omega)]
  rfl
theorem S_live (hR : RS h o B) (hW : WF B) (hU : RuC h ru ρ) (ho : o ≠ 49) (hd : ru ≠ 49) (hdj : o + 6 ≤ ru ∨ ru + 6 ≤ o) {n : Nat} (hn : n < 1000) : ∃ h', fS_live o ru (nI n) h = some (nI (paidAll ρ B n), h') ∧ RS h' o (qdn ρ B n) ∧ Ag [ru + 2, ru + 5, o, o + 3, o + 4, o + 5] h h' := by
  unfold fS_live fS_live_0
  have main : ∃ x, rb_iter rb_fuel (fun s => fS_live_5b o ru (nI n) s.1 s.2.1 s.2.2) ((0 : Int32), (0 : Int32), h) = some x ∧ (x.1 = nI (paidAll ρ B n) ∧ RS x.2 o (qdn ρ B n) ∧ Ag [ru + 2, ru + 5, o, o + 3, o + 4, o + 5] h x.2) := by
    refine rb_runP (fun k s => s.1 = nI (paidAll ρ B k) ∧ s.2.1 = nI k ∧ RS s.2.2 o (qdn ρ B k) ∧ Ag [ru + 2, ru + 5, o, o + 3, o + 4, o + 5] h s.2.2) _ n ⟨rfl, rfl, hR, Ag_refl _ _⟩ (by omega) ?_ ?_
    · rintro k ⟨v, w, h1⟩ hk ⟨e1, e2, r, hA⟩
      dsimp only at e1 e2 r hA ⊢
      subst e1
      subst e2
      have hU1 : RuC h1 ru ρ := RuC_ag hU hA hd (by simp only [List.mem_cons, List.not_mem_nil, or_false]; omega)
      obtain ⟨h2, q1, q2, q3⟩ := S_quarterDay r (qdn_WF hW k) hU1 ho hd hdj
      unfold fS_live_5b
      rw [if_neg (nI_ge hk (show n < 2 ^ 31 by omega)), q1]
      refine ⟨_, rfl, ?_, nI_1 _, q2, Ag_trans hA q3⟩
      show nI _ + nI _ = nI (paidAll ρ B k + _)
      rw [nI_add, qdn_N]
    · rintro ⟨v, w, h1⟩ ⟨e1, e2, r, hA⟩
      dsimp only at e1 e2 r hA ⊢
      subst e1
      subst e2
      unfold fS_live_5b
      rw [if_pos (nI_le (Nat.le_refl _) (by omega))]
      exact ⟨_, rfl, rfl, r, hA⟩
  obtain ⟨x, m1, m2, m3, m4⟩ := main
  rw [m1]
  simp only [Option.bind_some, m2]
  exact ⟨_, rfl, m3, m4⟩
theorem M_goQuarters (hR : RM h a B) (hW : WF B) (hU : RuM h ρ) (ha : mA a) {n : Nat} (hn : n < 1000) : ∃ h', fM_goQuarters a (nI n) h = some (nI (outAll ρ B n), h') ∧ RM h' a (qdn ρ B n) ∧ rb_hF h' 49 24 = nI (paidAll ρ B n) ∧ Ag (a :: 1024 :: mR) h h' := by
  unfold fM_goQuarters fM_goQuarters_0
  have main : ∃ x, rb_iter rb_fuel (fun s => fM_goQuarters_10b a (nI n) s.1 s.2.1 s.2.2) ((0 : Int32), (0 : Int32), rb_sF h 49 24 0) = some x ∧ (x.1 = nI (outAll ρ B n) ∧ RM x.2 a (qdn ρ B n) ∧ rb_hF x.2 49 24 = nI (paidAll ρ B n) ∧ Ag (a :: 1024 :: mR) h x.2) := by
    refine rb_runP (fun k s => s.1 = nI (outAll ρ B k) ∧ s.2.1 = nI k ∧ RM s.2.2 a (qdn ρ B k) ∧ rb_hF s.2.2 49 24 = nI (paidAll ρ B k) ∧ Ag (a :: 1024 :: mR) h s.2.2) _ n ⟨rfl, rfl, ?_, ?_, Ag_sF (by simp [fid]) (Ag_refl _ _)⟩ (by omega) ?_ ?_
    · exact RM_ag (L := [1024]) hR (Ag_sF (by simp [fid]) (Ag_refl _ _)) (fun x hx => by unfold mA at ha; simp only [List.mem_cons, List.not_mem_nil, or_false] at hx ⊢; omega)
    · show rb_hF (rb_sF h 49 24 0) 49 24 = nI 0
      rw [hF_sF, if_pos ⟨rfl, rfl⟩]; rfl
    · rintro k ⟨v, w, h1⟩ hk ⟨e1, e2, r, hp, hA⟩
      dsimp only at e1 e2 r hp hA ⊢
      subst e1
      subst e2
      have hU1 : RuM h1 ρ := RuM_ag hU hA (fun x hx => by unfold mA at ha; unfold mR; simp only [List.mem_cons, List.not_mem_nil, or_false] at hx ⊢; omega)
      obtain ⟨h2, q1, q2, q3, q4⟩ := M_goQuarter r (qdn_WF hW k) hU1 ha
      have hb8 := (qdn_WF (ρ := ρ) hW k).1
      unfold fM_goQuarters_10b
      rw [if_neg (nI_ge hk (show n < 2 ^ 31 by omega)), q1]
      simp only [Option.bind_some, rb_lt, bc_bits _ (show bN (qdn ρ B k) ≤ 32 by omega)]
      refine ⟨_, rfl, ?_, nI_1 _, q2, ?_, Ag_trans hA q4⟩
      · show nI _ + nI _ = nI (outAll ρ B k + _)
        rw [nI_add, qdn_N]
      · show rb_hF h2 49 24 = nI (paidAll ρ B k + _)
        rw [q3, hp, nI_add, qdn_N]
    · rintro ⟨v, w, h1⟩ ⟨e1, e2, r, hp, hA⟩
      dsimp only at e1 e2 r hp hA ⊢
      subst e1
      subst e2
      unfold fM_goQuarters_10b
      rw [if_pos (nI_le (Nat.le_refl _) (by omega))]
      exact ⟨_, rfl, rfl, r, hp, hA⟩
  obtain ⟨x, m1, m2, m3, m4, m5⟩ := main
  rw [m1]
  simp only [Option.bind_some, m2]
  exact ⟨_, rfl, m3, m4, m5⟩
end
