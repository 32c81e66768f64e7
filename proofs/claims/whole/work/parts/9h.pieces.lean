/-! all lines -/
theorem r6 : ∀ x, x < 12 → rb_rem (nI x) 6 = nI (x % 6) ∧ nI x / 6 = nI (x / 6) := by unfold rb_rem; decide +kernel
def pcK (L0 : Int32) : (Int32 × rb_H) ⊕ (rb_H ⊕ ((Int32 × rb_H) ⊕ rb_H)) → Option (Int32 × rb_H) := Sum.elim (fun x19 => some (x19.1, x19.2)) (Sum.elim (fun x20 => if rb_hF x20 1 1 ≤ 47 then some ((-1), x20) else some ((47), x20)) (Sum.elim (fun x21 => some (x21.1, x21.2)) (fun x22 => some (L0, x22))))
section
variable {X : List Nat} {B0 : sBd}
theorem TXc_106 {h h' : rb_H} (hT : TXc h X) (hA : Ag (sIds 106) h h') : TXc h' X := TXc_ag hT hA (by decide)
theorem pc_loop (hX : rp_X X 47) (hW0 : WF B0) (L0 : Int32) : ∀ (j n : Nat) (B : sBd), bN B + j = 8 → WF B → onB B0 B n → 6 * n ≤ min X.length 47 →
    (∃ q, q ≤ 47 ∧ (∀ h m, TXc h X → RS h 106 B → j < m → ∃ h', (rb_iter m (fun s => fB_readLines_23b (nI (min X.length 47)) 5 s.1 s.2) (nI (6 * n), h)).bind (pcK L0) = some (nI q, h') ∧ Ag (sIds 106) h h') ∧ ∀ h m, rp_M h 52 X 47 (6 * n) (-1) → RM h 50 B0 → toldN h (bN B0) n B → j + 1 < m → ∃ x h' h'', rb_iter m (fun s => fM_pieces_24b s.1 s.2.1 s.2.2) (nI n, (1 : Int32), h) = some (x, h') ∧ fM_wasRight h' = (false, h'') ∧ rb_hF h'' 49 12 = nI q ∧ Ag [54, 1011, 1012] h h'') ∨
    ∃ n' B', n < n' ∧ WF B' ∧ onB B0 B' n' ∧ X.length ≤ 47 ∧ (∀ h m, TXc h X → RS h 106 B → j < m → ∃ h', (rb_iter m (fun s => fB_readLines_23b (nI (min X.length 47)) 5 s.1 s.2) (nI (6 * n), h)).bind (pcK L0) = some (-1, h') ∧ RS h' 106 B' ∧ Ag (sIds 106) h h') ∧ ∀ h m, rp_M h 52 X 47 (6 * n) (-1) → RM h 50 B0 → toldN h (bN B0) n B → j + 1 < m → ∃ h', rb_iter m (fun s => fM_pieces_24b s.1 s.2.1 s.2.2) (nI n, (1 : Int32), h) = some (nI n', h') ∧ fM_wasRight h' = (true, h') ∧ toldN h' (bN B0) n' B' ∧ Ag [54, 1011, 1012] h h'
  | j, n, B, hj, hW, ho, hp => by
    have hx80 := hX.1
    have nm : ∀ q, q ≤ 47 → nI q ≠ -1 := fun q hq z => m1_nI (show q < 2 ^ 31 by omega) z.symm
    -- the model's rest of a round
    have rest : ∀ h q p', q ≤ 47 → rp_M h 52 X 47 p' (nI q) → fM_pieces_62l24 (nI n) h = some (.inl (nI (n + 1), 0, h)) := fun h q p' hq hM => by
      unfold fM_pieces_62l24
      rw [rp_pass2 hM (nm q hq), Option.bind_some, nI_1]
      rfl
    have out : ∀ (v : Int32) (h : rb_H), fM_pieces_24b v 0 h = some (.inr (v, h)) := fun v h => by
      unfold fM_pieces_24b
      rw [if_pos rfl]
    by_cases h8 : bN B < 8
    · obtain ⟨j, rfl⟩ : ∃ k, j = k + 1 := ⟨j - 1, by omega⟩
      have in24 : ∀ h, rp_M h 52 X 47 (6 * n) (-1) → RM h 50 B0 → fM_pieces_24b (nI n) 1 h = (fM_readPiece (nI n) h).bind fun u5 => fM_pieces_62l24 (nI n) u5 := fun h hM hR => by
        unfold fM_pieces_24b
        rw [if_neg (by decide), rp_fine hM, if_pos rfl, hR.1, nI_add, if_neg (fun z => by have := (nI_eq (b := 8) (show bN B0 + n < 2 ^ 31 by have := ho.1; omega) (by omega)).mp z; have := ho.1; omega)]
      rcases pc_line hX hW hW0 ho h8 rfl with ⟨q, hq, hC, hM⟩ | ⟨k, s, q, u, hk, hs, hq, hu, p5, fr, hC, hC2, hM⟩
      · refine Or.inl ⟨q, hq, fun h m hT hR hm => ?_, fun h m hM0 hR0 ht hm => ?_⟩
        · obtain ⟨m, rfl⟩ : ∃ k, m = k + 1 := ⟨m - 1, by omega⟩
          refine ⟨h, ?_, Ag_refl _ _⟩
          rw [rb_iter_inr (x := .inl (nI q, h)) ?_]
          · rfl
          · unfold fB_readLines_23b
            dsimp only
            rw [if_neg (fun z => by have := (nI_ltI (show min X.length 47 < 2 ^ 31 by omega) (show 6 * n < 2 ^ 31 by omega)).mp z; omega), hC h hT hR, Option.bind_some, if_neg (nI_pos (by omega))]
        · obtain ⟨m, rfl⟩ : ∃ k, m = k + 2 := ⟨m - 2, by omega⟩
          obtain ⟨h', p', r1, r2, r3⟩ := hM h hM0 hR0 ht
          refine ⟨nI (n + 1), h', h', ?_, rp_right2 r2 hX (nm q hq), r2.2.2.2.2.2.2.1, r3⟩
          rw [rb_iter_inl (s' := (nI (n + 1), 0, h')) ?_, rb_iter_inr (out _ _)]
          show fM_pieces_24b (nI n) 1 h = _
          rw [in24 h hM0 hR0, r1, Option.bind_some, rest h' q p' hq r2]
      · have hW' := addB_WF hW h8 hk hs hq hu fr
        have ho' := onB_add ho k s q u
        have cls : ∀ h, TXc h X → RS h 106 B → ∃ h', fB_readLines_23b (nI (min X.length 47)) 5 (nI (6 * n)) h = (if nI (6 * n + 5) < nI (min X.length 47) then if nI (X.getD (6 * n + 5) 0) = 59 then some (.inl (nI (6 * n + 6), h')) else some (.inr (.inr (.inr (.inl (nI (6 * n + 5), h'))))) else some (.inr (.inr (.inl h')))) ∧ RS h' 106 (addB B k s q u) ∧ Ag (sIds 106) h h' := fun h hT hR => by
          obtain ⟨c1, c2, c3, c4⟩ := hC2 h hT
          obtain ⟨h', s1, s2, s3⟩ := S_add hR h8 k s q u
          refine ⟨h', ?_, s2, s3⟩
          obtain ⟨e1, e2⟩ := r6 (6 * s + k) (by omega)
          rw [show (6 * s + k) % 6 = k by omega] at e1
          rw [show (6 * s + k) / 6 = s by omega] at e2
          unfold fB_readLines_23b
          rw [if_neg (fun z => by have := (nI_ltI (show min X.length 47 < 2 ^ 31 by omega) (show 6 * n < 2 ^ 31 by omega)).mp z; omega), hC h hT hR, Option.bind_some, if_pos (by decide), c1, Option.bind_some, c2, Option.bind_some, show nI (6 * n) + 1 = nI (6 * n + 1) from nI_add _ 1, c3, Option.bind_some, show nI (6 * n) + 3 = nI (6 * n + 3) from nI_add _ 3, c4, Option.bind_some, e1, e2, s1, Option.bind_some, show nI (6 * n) + 5 = nI (6 * n + 5) from nI_add _ 5, at_any (TXc_106 hT s3) hX.1 hX.2.1 (by omega), Option.bind_some, show nI (6 * n) + ((5 : Int32) + 1) = nI (6 * n + 6) from nI_add _ 6]
        have mdl : ∀ h, rp_M h 52 X 47 (6 * n) (-1) → RM h 50 B0 → toldN h (bN B0) n B → ∃ h', fM_pieces_24b (nI n) 1 h = (if hereN X 47 (6 * n + 5) = 59 then some (.inl (nI (n + 1), 1, rb_sF h' 49 11 (nI (6 * n + 6)))) else some (.inl (nI (n + 1), 0, h'))) ∧ rp_M h' 52 X 47 (6 * n + 5) (-1) ∧ toldN h' (bN B0) (n + 1) (addB B k s q u) ∧ Ag [54, 1011, 1012] h h' := fun h hM0 hR0 ht => by
          obtain ⟨h', r1, r2, r3, r4⟩ := hM h hM0 hR0 ht
          refine ⟨h', ?_, r2, r3, r4⟩
          rw [in24 h hM0 hR0, r1, Option.bind_some]
          unfold fM_pieces_62l24
          rw [rp_pass r2 hX (by omega)]
          by_cases z : hereN X 47 (6 * n + 5) = 59
          · rw [if_pos z, if_pos z, Option.bind_some, nI_1]
            rfl
          · rw [if_neg z, if_neg z, Option.bind_some, nI_1]
            rfl
        by_cases z : hereN X 47 (6 * n + 5) = 59
        · have c5 : 6 * n + 5 < min X.length 47 := by
            by_cases y : 6 * n + 5 < min X.length 47
            · exact y
            · rw [hereN_n y] at z
              exact absurd z (by decide)
          have z2 := z
          rw [hereN_y c5] at z2
          have stepC : ∀ h, TXc h X → RS h 106 B → ∃ h', fB_readLines_23b (nI (min X.length 47)) 5 (nI (6 * n)) h = some (.inl (nI (6 * (n + 1)), h')) ∧ RS h' 106 (addB B k s q u) ∧ Ag (sIds 106) h h' := fun h hT hR => by
            obtain ⟨h', e, e2, e3⟩ := cls h hT hR
            rw [if_pos (nI_lt c5 (by omega)), if_pos z2] at e
            exact ⟨h', e, e2, e3⟩
          have stepM : ∀ h, rp_M h 52 X 47 (6 * n) (-1) → RM h 50 B0 → toldN h (bN B0) n B → ∃ h', fM_pieces_24b (nI n) 1 h = some (.inl (nI (n + 1), 1, h')) ∧ rp_M h' 52 X 47 (6 * (n + 1)) (-1) ∧ toldN h' (bN B0) (n + 1) (addB B k s q u) ∧ Ag [54, 1011, 1012] h h' := fun h hM0 hR0 ht => by
            obtain ⟨h', e, e2, e3, e4⟩ := mdl h hM0 hR0 ht
            rw [if_pos z] at e
            have A : Ag [1011] h' (rb_sF h' 49 11 (nI (6 * n + 6))) := Ag_sF (by decide) (Ag_refl _ _)
            exact ⟨_, e, rp_M_at e2 (6 * n + 6), toldN_ag e3 A (by decide), Ag_trans e4 (AgS (by decide) A)⟩
          rcases pc_loop hX hW0 L0 j (n + 1) (addB B k s q u) (by show bN B + 1 + j = 8; omega) hW' ho' (by omega) with ⟨q', hq', hC', hM'⟩ | ⟨n', B', n1, n2, n3, n4, hC', hM'⟩
          · refine Or.inl ⟨q', hq', fun h m hT hR hm => ?_, fun h m hM0 hR0 ht hm => ?_⟩
            · obtain ⟨m, rfl⟩ : ∃ k, m = k + 1 := ⟨m - 1, by omega⟩
              obtain ⟨h1, e1, e2, e3⟩ := stepC h hT hR
              obtain ⟨h2, f1, f2⟩ := hC' h1 m (TXc_106 hT e3) e2 (by omega)
              refine ⟨h2, ?_, Ag_trans e3 f2⟩
              rw [rb_iter_inl e1]
              exact f1
            · obtain ⟨m, rfl⟩ : ∃ k, m = k + 1 := ⟨m - 1, by omega⟩
              obtain ⟨h1, e1, e2, e3, e4⟩ := stepM h hM0 hR0 ht
              obtain ⟨x, h2, h3, f1, f2, f3, f4⟩ := hM' h1 m e2 (RMn_ag hR0 e4 (by decide)) e3 (by omega)
              refine ⟨x, h2, h3, ?_, f2, f3, Ag_trans e4 f4⟩
              rw [rb_iter_inl e1]
              exact f1
          · refine Or.inr ⟨n', B', by omega, n2, n3, n4, fun h m hT hR hm => ?_, fun h m hM0 hR0 ht hm => ?_⟩
            · obtain ⟨m, rfl⟩ : ∃ k, m = k + 1 := ⟨m - 1, by omega⟩
              obtain ⟨h1, e1, e2, e3⟩ := stepC h hT hR
              obtain ⟨h2, f1, f2, f3⟩ := hC' h1 m (TXc_106 hT e3) e2 (by omega)
              refine ⟨h2, ?_, f2, Ag_trans e3 f3⟩
              rw [rb_iter_inl e1]
              exact f1
            · obtain ⟨m, rfl⟩ : ∃ k, m = k + 1 := ⟨m - 1, by omega⟩
              obtain ⟨h1, e1, e2, e3, e4⟩ := stepM h hM0 hR0 ht
              obtain ⟨h2, f1, f2, f3, f4⟩ := hM' h1 m e2 (RMn_ag hR0 e4 (by decide)) e3 (by omega)
              refine ⟨h2, ?_, f2, f3, Ag_trans e4 f4⟩
              rw [rb_iter_inl e1]
              exact f1
        · have stepM : ∀ h m, rp_M h 52 X 47 (6 * n) (-1) → RM h 50 B0 → toldN h (bN B0) n B → 2 ≤ m → ∃ h', rb_iter m (fun s => fM_pieces_24b s.1 s.2.1 s.2.2) (nI n, (1 : Int32), h) = some (nI (n + 1), h') ∧ rp_M h' 52 X 47 (6 * n + 5) (-1) ∧ toldN h' (bN B0) (n + 1) (addB B k s q u) ∧ Ag [54, 1011, 1012] h h' := fun h m hM0 hR0 ht hm => by
            obtain ⟨m, rfl⟩ : ∃ k, m = k + 2 := ⟨m - 2, by omega⟩
            obtain ⟨h', e, e2, e3, e4⟩ := mdl h hM0 hR0 ht
            rw [if_neg z] at e
            refine ⟨h', ?_, e2, e3, e4⟩
            rw [rb_iter_inl e, rb_iter_inr (out _ _)]
          by_cases c6 : 6 * n + 5 < X.length
          · refine Or.inl ⟨6 * n + 5, by omega, fun h m hT hR hm => ?_, fun h m hM0 hR0 ht hm => ?_⟩
            · obtain ⟨m, rfl⟩ : ∃ k, m = k + 1 := ⟨m - 1, by omega⟩
              obtain ⟨h', e, e2, e3⟩ := cls h hT hR
              refine ⟨h', ?_, e3⟩
              by_cases c7 : 6 * n + 5 < min X.length 47
              · rw [hereN_y c7] at z
                rw [if_pos (nI_lt c7 (by omega)), if_neg z] at e
                rw [rb_iter_inr e]
                rfl
              · rw [if_neg (fun y => by have := (nI_ltI (show 6 * n + 5 < 2 ^ 31 by omega) (show min X.length 47 < 2 ^ 31 by omega)).mp y; omega)] at e
                rw [rb_iter_inr e, Option.bind_some]
                show (if rb_hF h' 1 1 ≤ 47 then some ((-1), h') else some ((47), h')) = _
                rw [(TXc_106 hT e3).1, if_neg (show ¬ nI X.length ≤ (47 : Int32) from nI_ge (a := 47) (by omega) (by omega)), show 6 * n + 5 = 47 by omega]
                rfl
            · obtain ⟨h', e1, e2, e3, e4⟩ := stepM h m hM0 hR0 ht (by omega)
              have e := rp_right e2 hX (by omega)
              rw [if_pos c6] at e
              exact ⟨_, h', _, e1, e, by rw [hF_sF, if_pos ⟨rfl, rfl⟩], Ag_sF (by decide) e4⟩
          · refine Or.inr ⟨n + 1, addB B k s q u, by omega, hW', ho', by omega, fun h m hT hR hm => ?_, fun h m hM0 hR0 ht hm => ?_⟩
            · obtain ⟨m, rfl⟩ : ∃ k, m = k + 1 := ⟨m - 1, by omega⟩
              obtain ⟨h', e, e2, e3⟩ := cls h hT hR
              refine ⟨h', ?_, e2, e3⟩
              rw [if_neg (fun y => by have := (nI_ltI (show 6 * n + 5 < 2 ^ 31 by omega) (show min X.length 47 < 2 ^ 31 by omega)).mp y; omega)] at e
              rw [rb_iter_inr e, Option.bind_some]
              show (if rb_hF h' 1 1 ≤ 47 then some ((-1), h') else some ((47), h')) = _
              rw [(TXc_106 hT e3).1, if_pos (show nI X.length ≤ (47 : Int32) from nI_le (b := 47) (by omega) (by omega))]
            · obtain ⟨h', e1, e2, e3, e4⟩ := stepM h m hM0 hR0 ht (by omega)
              have e := rp_right e2 hX (by omega)
              rw [if_neg c6] at e
              exact ⟨h', e1, e, e3, e4⟩
    · have b8 : bN B = 8 := by have := hW.1; omega
      refine Or.inl ⟨6 * n, by omega, fun h m hT hR hm => ?_, fun h m hM0 hR0 ht hm => ?_⟩
      · obtain ⟨m, rfl⟩ : ∃ k, m = k + 1 := ⟨m - 1, by omega⟩
        refine ⟨h, ?_, Ag_refl _ _⟩
        rw [rb_iter_inr (x := .inl (nI (6 * n), h)) ?_]
        · rfl
        · unfold fB_readLines_23b
          dsimp only
          have lf : fB_lineFault (nI (6 * n)) h = some (nI (6 * n)) := by
            unfold fB_lineFault fB_lineFault_0
            rw [hR.1, b8, if_pos (by decide)]
          rw [if_neg (fun z => by have := (nI_ltI (show min X.length 47 < 2 ^ 31 by omega) (show 6 * n < 2 ^ 31 by omega)).mp z; omega), lf, Option.bind_some, if_neg (nI_pos (by omega))]
      · obtain ⟨m, rfl⟩ : ∃ k, m = k + 2 := ⟨m - 2, by omega⟩
        have M1 := rp_M_w hM0 (nI (6 * n))
        refine ⟨nI (n + 1), _, _, ?_, rp_right2 M1 hX (nm _ (by omega)), by rw [hF_sF, if_pos ⟨rfl, rfl⟩], Ag_sF (by decide) (Ag_refl _ _)⟩
        rw [rb_iter_inl (s' := (nI (n + 1), 0, rb_sF h 49 12 (nI (6 * n)))) ?_, rb_iter_inr (out _ _)]
        show fM_pieces_24b (nI n) 1 h = _
        unfold fM_pieces_24b
        rw [if_neg (by decide), rp_fine hM0, if_pos rfl, hR0.1, nI_add, ← ho.1, b8, if_pos (by decide)]
        simp only [rb_lt]
        rw [rp_fault hM0, rest _ _ _ (by omega) M1]
end
/-! what was told is laid down -/
def setN (B : sBd) (m : Nat) : sBd := (B.1, B.2.1, B.2.2.1, B.2.2.2.1, m, B.2.2.2.2.2)
theorem M_layOne {h : rb_H} {B : sBd} {N n k : Nat} (hR : RM h 50 (setN B (N + k))) (ht : toldN h N n B) (hk : k < n) (h8 : N + n ≤ 8) : ∃ h', fM_pieces_91b (nI n) (nI k) h = some (.inl (nI (k + 1), h')) ∧ RM h' 50 (setN B (N + (k + 1))) ∧ toldN h' N n B ∧ Ag [1002, 50, 51] h h' := by
  obtain ⟨t1, t2, t3, t4⟩ := ht k hk
  have r1 : rb_hF h 49 2 = nI (N + k) := hR.1
  have e1 : nI (4 * k) + 1 = nI (4 * k + 1) := nI_add _ 1
  have e2 : nI (4 * k) + 2 = nI (4 * k + 2) := nI_add _ 2
  have e3 : nI (4 * k) + 3 = nI (4 * k + 3) := nI_add _ 3
  have o : ∀ i m, i < m → m < 1000 → ¬ rb_oob (nI i) m := fun i m h1 h2 => oob_n h1 (by omega)
  have A : Ag [1002, 50, 51] h (rb_sF (rb_sI (rb_sI (rb_sI (rb_sI h 50 (N + k) (nI (bK B (N + k)))) 51 (N + k) (nI (bS B (N + k)))) 50 (8 + (N + k)) (nI (bP B (N + k)))) 50 (16 + (N + k)) (nI (bU B (N + k)))) 49 2 (nI (N + k + 1))) := Ag_sF (by decide) (Ag_sI (by decide) (Ag_sI (by decide) (Ag_sI (by decide) (Ag_sI (by decide) (Ag_refl _ _)))))
  refine ⟨_, ?_, ?_, toldN_ag ht A (by decide), A⟩
  · unfold fM_pieces_91b
    simp only [hF_sF, hF_sI, hI_sI, hI_sF, r1, n4, e1, e2, e3, nI8, nI16, cl_n (show 4 * k < 2 ^ 31 by omega), cl_n (show 4 * k + 1 < 2 ^ 31 by omega), cl_n (show 4 * k + 2 < 2 ^ 31 by omega), cl_n (show 4 * k + 3 < 2 ^ 31 by omega), cl_n (show N + k < 2 ^ 31 by omega), cl_n (show 8 + (N + k) < 2 ^ 31 by omega), cl_n (show 16 + (N + k) < 2 ^ 31 by omega), show ¬ (54 = 50) by decide, show ¬ (54 = 51) by decide, false_and, if_false, t1, t2, t3, t4]
    rw [if_neg (nI_ge hk (by omega)), if_neg (o _ _ (show 4 * k < 32 by omega) (by omega)), if_neg (o _ _ (show N + k < 27 by omega) (by omega)), if_neg (o _ _ (show 4 * k + 1 < 32 by omega) (by omega)), if_neg (o _ _ (show N + k < 8 by omega) (by omega)), if_neg (o _ _ (show 4 * k + 2 < 32 by omega) (by omega)), if_neg (o _ _ (show 8 + (N + k) < 27 by omega) (by omega)), if_neg (o _ _ (show 4 * k + 3 < 32 by omega) (by omega)), if_neg (o _ _ (show 16 + (N + k) < 27 by omega) (by omega)), nI_1, nI_1]
  · obtain ⟨q1, q2, q3, q4, q5⟩ := hR
    refine ⟨?_, ?_, ?_, ?_, fun i hi => ?_⟩
    · simp [hI_sI, hI_sJ, hI_sF, hI_sR, hI_cp, hJ_sI, hJ_sJ, hJ_sF, hJ_sR, hJ_cp, hF_sI, hF_sJ, hF_sF, hF_sR, hF_cp, hR_sI, hR_sJ, hR_sF, hR_sR, hR_cp]; rfl
    · simp only [hI_sI, hI_sJ, hI_sF, hI_sR, hI_cp, hJ_sI, hJ_sJ, hJ_sF, hJ_sR, hJ_cp, hF_sI, hF_sJ, hF_sF, hF_sR, hF_cp, hR_sI, hR_sJ, hR_sF, hR_sR, hR_cp]
      rw [if_neg (by omega), if_neg (by omega), if_neg (by omega), if_neg (by omega)]
      exact q2
    · simp only [hI_sI, hI_sJ, hI_sF, hI_sR, hI_cp, hJ_sI, hJ_sJ, hJ_sF, hJ_sR, hJ_cp, hF_sI, hF_sJ, hF_sF, hF_sR, hF_cp, hR_sI, hR_sJ, hR_sF, hR_sR, hR_cp]
      rw [if_neg (by omega), if_neg (by omega), if_neg (by omega), if_neg (by omega)]
      exact q3
    · simp only [hI_sI, hI_sJ, hI_sF, hI_sR, hI_cp, hJ_sI, hJ_sJ, hJ_sF, hJ_sR, hJ_cp, hF_sI, hF_sJ, hF_sF, hF_sR, hF_cp, hR_sI, hR_sJ, hR_sF, hR_sR, hR_cp]
      rw [if_neg (by omega), if_neg (by omega), if_neg (by omega), if_neg (by omega)]
      exact q4
    · have hi : i < N + k + 1 := hi
      show _ = nI (bK B i) ∧ _ = nI (bS B i) ∧ _ = nI (bP B i) ∧ _ = nI (bU B i)
      by_cases z : i = N + k
      · subst z
        refine ⟨?_, ?_, ?_, ?_⟩
        · simp only [hI_sI, hI_sJ, hI_sF, hI_sR, hI_cp, hJ_sI, hJ_sJ, hJ_sF, hJ_sR, hJ_cp, hF_sI, hF_sJ, hF_sF, hF_sR, hF_cp, hR_sI, hR_sJ, hR_sF, hR_sR, hR_cp]
          rw [if_neg (by omega), if_neg (by omega), if_neg (by omega), if_pos ⟨trivial, trivial⟩]
        · simp only [hI_sI, hI_sJ, hI_sF, hI_sR, hI_cp, hJ_sI, hJ_sJ, hJ_sF, hJ_sR, hJ_cp, hF_sI, hF_sJ, hF_sF, hF_sR, hF_cp, hR_sI, hR_sJ, hR_sF, hR_sR, hR_cp]
          rw [if_neg (by omega), if_neg (by omega), if_pos ⟨trivial, trivial⟩]
        · simp only [hI_sI, hI_sJ, hI_sF, hI_sR, hI_cp, hJ_sI, hJ_sJ, hJ_sF, hJ_sR, hJ_cp, hF_sI, hF_sJ, hF_sF, hF_sR, hF_cp, hR_sI, hR_sJ, hR_sF, hR_sR, hR_cp]
          rw [if_neg (by omega), if_pos ⟨trivial, trivial⟩]
        · simp only [hI_sI, hI_sJ, hI_sF, hI_sR, hI_cp, hJ_sI, hJ_sJ, hJ_sF, hJ_sR, hJ_cp, hF_sI, hF_sJ, hF_sF, hF_sR, hF_cp, hR_sI, hR_sJ, hR_sF, hR_sR, hR_cp]
          rw [if_pos ⟨trivial, trivial⟩]
      · obtain ⟨p1, p2, p3, p4⟩ := q5 i (show i < N + k by omega)
        refine ⟨?_, ?_, ?_, ?_⟩
        · simp only [hI_sI, hI_sJ, hI_sF, hI_sR, hI_cp, hJ_sI, hJ_sJ, hJ_sF, hJ_sR, hJ_cp, hF_sI, hF_sJ, hF_sF, hF_sR, hF_cp, hR_sI, hR_sJ, hR_sF, hR_sR, hR_cp]
          rw [if_neg (by omega), if_neg (by omega), if_neg (by omega), if_neg (by omega)]
          exact p1
        · simp only [hI_sI, hI_sJ, hI_sF, hI_sR, hI_cp, hJ_sI, hJ_sJ, hJ_sF, hJ_sR, hJ_cp, hF_sI, hF_sJ, hF_sF, hF_sR, hF_cp, hR_sI, hR_sJ, hR_sF, hR_sR, hR_cp]
          rw [if_neg (by omega), if_neg (by omega), if_neg (by omega)]
          exact p2
        · simp only [hI_sI, hI_sJ, hI_sF, hI_sR, hI_cp, hJ_sI, hJ_sJ, hJ_sF, hJ_sR, hJ_cp, hF_sI, hF_sJ, hF_sF, hF_sR, hF_cp, hR_sI, hR_sJ, hR_sF, hR_sR, hR_cp]
          rw [if_neg (by omega), if_neg (by omega), if_neg (by omega), if_neg (by omega)]
          exact p3
        · simp only [hI_sI, hI_sJ, hI_sF, hI_sR, hI_cp, hJ_sI, hJ_sJ, hJ_sF, hJ_sR, hJ_cp, hF_sI, hF_sJ, hF_sF, hF_sR, hF_cp, hR_sI, hR_sJ, hR_sF, hR_sR, hR_cp]
          rw [if_neg (by omega), if_neg (by omega), if_neg (by omega), if_neg (by omega)]
          exact p4
