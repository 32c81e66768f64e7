/-! the calls in pairs: class and model -/
def rb_pr (l : Launch) (g : rb_G) (mB dB mM dM : Nat) (as : List Value) : Prop := ∀ σ h, WS σ → IC h σ → IM h σ → ∃ (x : Int32) (h1 h2 : rb_H) (σ' : sSt), rb_Mt l g (rb_mt mB) dB (.ref 0 :: as) h (some (.int x), h1) ∧ rb_Mt l g (rb_mt mM) dM (.ref 49 :: as) h1 (some (.int x), h2) ∧ WS σ' ∧ IC h2 σ' ∧ IM h2 σ'
theorem rb_pr_of {l : Launch} {g : rb_G} {mB dB mM dM : Nat} {as : List Value} {C M : rb_H → Option (Int32 × rb_H)} (ho : rb_op C M) (hB : ∀ h r, C h = some r → rb_Mt l g (rb_mt mB) dB (.ref 0 :: as) h (rb_rIw r)) (hM : ∀ h r, M h = some r → rb_Mt l g (rb_mt mM) dM (.ref 49 :: as) h (rb_rIw r)) : rb_pr l g mB dB mM dM as := fun σ h hσ h1 h2 => by
  obtain ⟨r, h', h'', σ', a, b, w, c, m⟩ := rb_op_two ho hσ h1 h2
  exact ⟨r, h', h'', σ', hB h _ a, hM h' _ b, w, c, m⟩
theorem rz_of {l : Launch} {g : rb_G} {m d : Nat} {as : List Value} {h : rb_H} {q : Bool × rb_H} (hM : rb_Mt l g (rb_mt m) d as h (rb_rZw q)) : rb_Mt l g (rb_mt m) d as h (rb_rIw (rbz q)) := hM
theorem pr_sign (l : Launch) (g : rb_G) (v1 : Int32) : rb_pr l g 2 1 160 0 [.int v1] := rb_pr_of (O_sign v1) (fun h r hF => M_fB_sign l g hF) (fun h r hF => M_fM_sign l g hF)
theorem pr_end (l : Launch) (g : rb_G) (v1 : Int32) : rb_pr l g 4 1 161 1 [.int v1] := rb_pr_of (O_end v1) (fun h r hF => by cases hF; exact rz_of (M_fB_end l g rfl)) (fun h r hF => by cases hF; exact rz_of (M_fM_end l g rfl))
theorem pr_pieces (l : Launch) (g : rb_G) : rb_pr l g 6 6 163 5 [] := rb_pr_of O_pieces (fun h r hF => M_fB_pieces l g hF) (fun h r hF => M_fM_pieces l g hF)
theorem pr_rule (l : Launch) (g : rb_G) : rb_pr l g 29 7 176 156 [] := rb_pr_of O_rule (fun h r hF => M_fB_rule l g hF) (fun h r hF => M_fM_rule l g hF)
theorem pr_sheet (l : Launch) (g : rb_G) (v1 : Int32) (v2 : Int32) (v3 : Int32) (v4 : Int32) : rb_pr l g 41 2 195 1 [.int v1, .int v2, .int v3, .int v4] := rb_pr_of (O_sheet v1 v2 v3 v4) (fun h r hF => M_fB_sheet l g hF) (fun h r hF => M_fM_sheet l g hF)
theorem pr_moves (l : Launch) (g : rb_G) (v1 : Int32) (v2 : Int32) : rb_pr l g 47 5 197 5 [.int v1, .int v2] := rb_pr_of (O_moves v1 v2) (fun h r hF => M_fB_moves l g hF) (fun h r hF => M_fM_moves l g hF)
theorem pr_quarters (l : Launch) (g : rb_G) (v1 : Int32) : rb_pr l g 66 6 207 158 [.int v1] := rb_pr_of (O_quarters v1) (fun h r hF => M_fB_quarters l g hF) (fun h r hF => M_fM_quarters l g hF)
theorem pr_passes (l : Launch) (g : rb_G) : rb_pr l g 80 3 210 2 [] := rb_pr_of O_passes (fun h r hF => M_fB_passes l g hF) (fun h r hF => M_fM_passes2 l g hF)
theorem pr_gives (l : Launch) (g : rb_G) (v1 : Int32) (v2 : Int32) (v3 : Int32) : rb_pr l g 82 3 211 3 [.int v1, .int v2, .int v3] := rb_pr_of (O_gives v1 v2 v3) (fun h r hF => M_fB_gives l g hF) (fun h r hF => M_fM_gives l g hF)
theorem pr_wages (l : Launch) (g : rb_G) (v1 : Int32) (v2 : Int32) : rb_pr l g 84 3 214 2 [.int v1, .int v2] := rb_pr_of (O_wages v1 v2) (fun h r hF => M_fB_wages l g hF) (fun h r hF => M_fM_wages l g hF)
theorem pr_game (l : Launch) (g : rb_G) : rb_pr l g 87 7 217 159 [] := rb_pr_of O_game (fun h r hF => M_fB_game l g hF) (fun h r hF => M_fM_game l g hF)
theorem pr_undo (l : Launch) (g : rb_G) : rb_pr l g 91 3 221 0 [] := rb_pr_of O_undo (fun h r hF => M_fB_undo l g hF) (fun h r hF => M_fM_undo l g hF)
theorem pr_goes (l : Launch) (g : rb_G) (v1 : Int32) : rb_pr l g 93 4 222 5 [.int v1] := rb_pr_of (O_goes v1) (fun h r hF => M_fB_goes l g hF) (fun h r hF => M_fM_goes l g hF)
theorem pr_threats (l : Launch) (g : rb_G) (v1 : Int32) : rb_pr l g 94 4 225 4 [.int v1] := rb_pr_of (O_threats v1) (fun h r hF => M_fB_threats l g hF) (fun h r hF => M_fM_threats l g hF)
theorem pr_hops (l : Launch) (g : rb_G) (v1 : Int32) (v2 : Int32) : rb_pr l g 95 4 226 3 [.int v1, .int v2] := rb_pr_of (O_hops v1 v2) (fun h r hF => M_fB_hops l g hF) (fun h r hF => M_fM_hops l g hF)
theorem pr_ways (l : Launch) (g : rb_G) (v1 : Int32) (v2 : Int32) (v3 : Int32) : rb_pr l g 101 4 228 3 [.int v1, .int v2, .int v3] := rb_pr_of (O_ways v1 v2 v3) (fun h r hF => M_fB_ways l g hF) (fun h r hF => M_fM_ways l g hF)
theorem pr_owes (l : Launch) (g : rb_G) (v1 : Int32) : rb_pr l g 105 5 229 156 [.int v1] := rb_pr_of (O_owes v1) (fun h r hF => M_fB_owes l g hF) (fun h r hF => M_fM_owes l g hF)
theorem pr_later (l : Launch) (g : rb_G) (v1 : Int32) (v2 : Int32) : rb_pr l g 107 6 230 158 [.int v1, .int v2] := rb_pr_of (O_later v1 v2) (fun h r hF => M_fB_later l g hF) (fun h r hF => M_fM_later l g hF)
theorem pr_when (l : Launch) (g : rb_G) (v1 : Int32) : rb_pr l g 108 5 232 157 [.int v1] := rb_pr_of (O_when v1) (fun h r hF => M_fB_when l g hF) (fun h r hF => M_fM_when l g hF)
theorem pr_needs (l : Launch) (g : rb_G) (v1 : Int32) (v2 : Int32) : rb_pr l g 109 5 233 158 [.int v1, .int v2] := rb_pr_of (O_needs v1 v2) (fun h r hF => M_fB_needs l g hF) (fun h r hF => M_fM_needs l g hF)
theorem pr_cheapest (l : Launch) (g : rb_G) (v1 : Int32) : rb_pr l g 110 5 234 156 [.int v1] := rb_pr_of (O_cheapest v1) (fun h r hF => M_fB_cheapest l g hF) (fun h r hF => M_fM_cheapest l g hF)
theorem pr_wanders (l : Launch) (g : rb_G) (v1 : Int32) (v2 : Int32) : rb_pr l g 111 5 235 157 [.int v1, .int v2] := rb_pr_of (O_wanders v1 v2) (fun h r hF => M_fB_wanders l g hF) (fun h r hF => M_fM_wanders l g hF)
theorem pr_stays (l : Launch) (g : rb_G) (v1 : Int32) (v2 : Int32) : rb_pr l g 115 5 238 157 [.int v1, .int v2] := rb_pr_of (O_stays v1 v2) (fun h r hF => M_fB_stays l g hF) (fun h r hF => M_fM_stays l g hF)
theorem pr_best (l : Launch) (g : rb_G) : rb_pr l g 117 6 239 310 [] := rb_pr_of O_best (fun h r hF => M_fB_best l g hF) (fun h r hF => M_fM_best l g hF)
theorem pr_looks (l : Launch) (g : rb_G) (v1 : Int32) : rb_pr l g 120 7 243 310 [.int v1] := rb_pr_of (O_looks v1) (fun h r hF => M_fB_looks l g hF) (fun h r hF => M_fM_looks l g hF)
theorem pr_choices (l : Launch) (g : rb_G) : rb_pr l g 122 4 244 5 [] := rb_pr_of O_choices (fun h r hF => M_fB_choices l g hF) (fun h r hF => M_fM_choices l g hF)
theorem pr_heard (l : Launch) (g : rb_G) (v1 : Int32) (v2 : Int32) : rb_pr l g 123 1 245 1 [.int v1, .int v2] := rb_pr_of (O_heard v1 v2) (fun h r hF => M_fB_heard l g hF) (fun h r hF => M_fM_heard l g hF)
theorem pr_forget (l : Launch) (g : rb_G) : rb_pr l g 125 1 247 0 [] := rb_pr_of O_forget (fun h r hF => M_fB_forget l g (Option.some.inj hF)) (fun h r hF => M_fM_forget l g (Option.some.inj hF))
theorem pr_fits (l : Launch) (g : rb_G) : rb_pr l g 127 7 248 7 [] := rb_pr_of O_fits (fun h r hF => M_fB_fits l g hF) (fun h r hF => M_fM_fits l g hF)
theorem pr_asks (l : Launch) (g : rb_G) : rb_pr l g 131 7 251 7 [] := rb_pr_of O_asks (fun h r hF => M_fB_asks l g hF) (fun h r hF => M_fM_asks l g hF)
theorem pr_saw (l : Launch) (g : rb_G) (v1 : Int32) (v2 : Int32) : rb_pr l g 132 1 252 1 [.int v1, .int v2] := rb_pr_of (O_saw v1 v2) (fun h r hF => M_fB_saw l g hF) (fun h r hF => M_fM_saw l g hF)
theorem pr_denies (l : Launch) (g : rb_G) : rb_pr l g 133 1 253 0 [] := rb_pr_of O_denies (fun h r hF => M_fB_denies l g (Option.some.inj hF)) (fun h r hF => M_fM_denies l g (Option.some.inj hF))
theorem pr_laws (l : Launch) (g : rb_G) : rb_pr l g 134 2 254 2 [] := rb_pr_of O_laws (fun h r hF => M_fB_laws l g hF) (fun h r hF => M_fM_laws l g hF)
theorem pr_sees (l : Launch) (g : rb_G) : rb_pr l g 137 3 257 2 [] := rb_pr_of O_sees (fun h r hF => M_fB_sees l g hF) (fun h r hF => M_fM_sees l g hF)
theorem pr_odds (l : Launch) (g : rb_G) (v1 : Int32) (v2 : Int32) (v3 : Int32) : rb_pr l g 139 3 258 153 [.int v1, .int v2, .int v3] := rb_pr_of (O_odds v1 v2 v3) (fun h r hF => M_fB_odds l g hF) (fun h r hF => M_fM_odds l g hF)
theorem pr_knights (l : Launch) (g : rb_G) (v1 : Int32) (v2 : Int32) : rb_pr l g 143 2 260 3 [.int v1, .int v2] := rb_pr_of (O_knights v1 v2) (fun h r hF => M_fB_knights l g hF) (fun h r hF => M_fM_knights l g hF)
theorem pr_rests (l : Launch) (g : rb_G) (v1 : Int32) : rb_pr l g 145 3 263 3 [.int v1] := rb_pr_of (O_rests v1) (fun h r hF => M_fB_rests l g hF) (fun h r hF => M_fM_rests l g hF)
theorem pr_law (l : Launch) (g : rb_G) : rb_pr l g 148 7 266 159 [] := rb_pr_of O_law (fun h r hF => M_fB_law l g hF) (fun h r hF => M_fM_law l g hF)
theorem pr_years (l : Launch) (g : rb_G) (v1 : Int32) (v2 : Int32) : rb_pr l g 149 5 268 157 [.int v1, .int v2] := rb_pr_of (O_years v1 v2) (fun h r hF => M_fB_years l g hF) (fun h r hF => M_fM_years l g hF)
theorem pr_keep (l : Launch) (g : rb_G) (v1 : Int32) : rb_pr l g 152 2 270 1 [.int v1] := rb_pr_of (O_keep v1) (fun h r hF => by
    cases e : fB_keep v1 h with
    | none => rw [e] at hF; cases hF
    | some q => rw [e] at hF; cases hF; exact rz_of (M_fB_keep l g e)) (fun h r hF => by
    cases e : fM_keep v1 h with
    | none => rw [e] at hF; cases hF
    | some q => rw [e] at hF; cases hF; exact rz_of (M_fM_keep l g e))
theorem pr_again (l : Launch) (g : rb_G) (v1 : Int32) : rb_pr l g 153 2 271 1 [.int v1] := rb_pr_of (O_again v1) (fun h r hF => by
    cases e : fB_again v1 h with
    | none => rw [e] at hF; cases hF
    | some q => rw [e] at hF; cases hF; exact rz_of (M_fB_again l g e)) (fun h r hF => by
    cases e : fM_again v1 h with
    | none => rw [e] at hF; cases hF
    | some q => rw [e] at hF; cases hF; exact rz_of (M_fM_again l g e))
theorem pr_count (l : Launch) (g : rb_G) (v1 : Int32) : rb_pr l g 154 3 272 2 [.int v1] := rb_pr_of (O_count v1) (fun h r hF => by
    cases e : fB_count v1 h with
    | none => rw [e] at hF; cases hF
    | some q => rw [e] at hF; cases hF; exact M_fB_count l g e) (fun h r hF => M_fM_count l g hF)
