/-! values, the numbers in the heap, and the world that they stand for -/
abbrev rb_H : Type := (Nat → Nat → Int32) × (Nat → Nat → Int64) × (Nat → Nat → Int32) × (Nat → Nat)
def rb_hI (h : rb_H) (a i : Nat) : Int32 := h.1 a i
def rb_hJ (h : rb_H) (a i : Nat) : Int64 := h.2.1 a i
def rb_hF (h : rb_H) (a k : Nat) : Int32 := h.2.2.1 a k
def rb_hR (h : rb_H) (n : Nat) : Nat := h.2.2.2 n
def rb_sI (h : rb_H) (a i : Nat) (v : Int32) : rb_H := (fun b j => if b = a then (if j = i then v else h.1 b j) else h.1 b j, h.2)
def rb_sJ (h : rb_H) (a i : Nat) (v : Int64) : rb_H := (h.1, fun b j => if b = a then (if j = i then v else h.2.1 b j) else h.2.1 b j, h.2.2)
def rb_sF (h : rb_H) (a k : Nat) (v : Int32) : rb_H := (h.1, h.2.1, fun b j => if b = a then (if j = k then v else h.2.2.1 b j) else h.2.2.1 b j, h.2.2.2)
def rb_sR (h : rb_H) (n v : Nat) : rb_H := (h.1, h.2.1, h.2.2.1, fun j => if j = n then v else h.2.2.2 j)
/-- a copy of n ints from place sp of a on, to place dp of b on -/
def rb_cp (h : rb_H) (a b sp dp n : Nat) : rb_H := (fun x j => if x = b then va_cpy (h.1 a) (h.1 b) sp dp n j else h.1 x j, h.2)
abbrev rb_G : Type := (va_G × (Nat → ClassId)) × ((Nat → Nat) × (Nat → Nat)) × (Bool × Nat × (Nat → Int32))
abbrev rb_D (g : rb_G) : va_G := g.1.1
abbrev rb_tc (g : rb_G) : Nat → ClassId := g.1.2
abbrev rb_ad (g : rb_G) : Nat → Nat := g.2.1.1
abbrev rb_as (g : rb_G) : Nat → Nat := g.2.1.2
/-- the script: its length, its numbers -/
abbrev rb_xl (g : rb_G) : Nat := g.2.2.2.1
abbrev rb_xs (g : rb_G) : Nat → Int32 := g.2.2.2.2
/-- a static of the JDK's that is only carried: null, or a reference -/
def rb_so (g : rb_G) : Value := match g.2.2.1 with
  | true => .null
  | false => .retAddr 301
def rb_fv (g : rb_G) (h : rb_H) (c i k : Nat) : Value := match rb_fk c k with
  | 0 => .int (rb_hF h i k)
  | 1 => .ref (rb_ad g (rb_sr c i k))
  | n + 2 => if rb_hR h n = 0 then .null else .ref (rb_ad g (rb_hR h n))
def rb_ent (g : rb_G) (h : rb_H) (i : Nat) : va_E :=
  if rb_ty i < 10 then .inr (rb_ty i, (List.range (rb_nf (rb_ty i))).map (rb_fv g h (rb_ty i) i))
  else .inl (rb_tc g (rb_ty i), rb_len i, if rb_ty i = 14 then .inr (.inl (rb_hJ h i)) else if 15 ≤ rb_ty i then .inr (.inr (.inr (.inr (fun j => some (rb_ad g (rb_ra i j)))))) else .inl (rb_hI h i))
def rb_W (g : rb_G) (h : rb_H) : va_W := (List.range rb_N).map (fun i => (rb_ad g i, rb_ent g h i))
theorem rb_W_at (g : rb_G) (h : rb_H) {i : Nat} (hi : i < rb_N) : (rb_W g h)[i]? = some (rb_ad g i, rb_ent g h i) := by
  unfold rb_W
  rw [List.getElem?_map, List.getElem?_range hi]
  rfl
theorem rb_W_len (g : rb_G) (h : rb_H) : (rb_W g h).length = rb_N := by
  unfold rb_W
  rw [List.length_map, List.length_range]
theorem rb_ty_lt {i : Nat} (h : rb_ty i < 99) : i < rb_N := by
  unfold rb_ty at h
  by_cases h1 : i < rb_base
  · exact Nat.lt_trans h1 (by decide)
  · rw [if_neg h1] at h
    by_cases h2 : i < rb_N
    · exact h2
    · rw [if_neg h2] at h
      exact absurd h (by decide)
theorem rb_W_set (g : rb_G) {h h' : rb_H} {i : Nat} {e : va_E} (h1 : rb_ent g h' i = e) (h2 : ∀ j, j ≠ i → rb_ent g h' j = rb_ent g h j) : (rb_W g h).set i (rb_ad g i, e) = rb_W g h' := by
  apply List.ext_getElem?
  intro j
  by_cases hj : j < rb_N
  · rw [rb_W_at g h' hj]
    by_cases hij : i = j
    · subst hij
      rw [List.getElem?_set_self (by rw [rb_W_len]; exact hj), h1]
    · rw [List.getElem?_set_ne hij, rb_W_at g h hj, h2 j (fun q => hij q.symm)]
  · rw [List.getElem?_eq_none (by rw [List.length_set, rb_W_len]; omega), List.getElem?_eq_none (by rw [rb_W_len]; omega)]
/-- an array's entry -/
theorem rb_ent_i (g : rb_G) (h : rb_H) {i t : Nat} (ht : rb_ty i = t) (h1 : 10 ≤ t) (h2 : t < 14) : rb_ent g h i = .inl (rb_tc g t, rb_len i, .inl (rb_hI h i)) := by
  unfold rb_ent
  rw [ht, if_neg (by omega), if_neg (by omega), if_neg (by omega)]
theorem rb_ent_l (g : rb_G) (h : rb_H) {i : Nat} (ht : rb_ty i = 14) : rb_ent g h i = .inl (rb_tc g 14, rb_len i, .inr (.inl (rb_hJ h i))) := by
  unfold rb_ent
  rw [ht, if_neg (by omega), if_pos rfl]
theorem rb_ent_r (g : rb_G) (h : rb_H) {i t : Nat} (ht : rb_ty i = t) (h1 : 15 ≤ t) : rb_ent g h i = .inl (rb_tc g t, rb_len i, .inr (.inr (.inr (.inr (fun j => some (rb_ad g (rb_ra i j))))))) := by
  unfold rb_ent
  rw [ht, if_neg (by omega), if_neg (by omega), if_pos h1]
theorem rb_ent_o (g : rb_G) (h : rb_H) {i c : Nat} (ht : rb_ty i = c) (h1 : c < 10) : rb_ent g h i = .inr (c, (List.range (rb_nf c)).map (rb_fv g h c i)) := by
  unfold rb_ent
  rw [ht, if_pos h1]
/-- writing an int into an array -/
theorem rb_W_sI (g : rb_G) (h : rb_H) {a i t : Nat} (v : Int32) (ht : rb_ty a = t) (h1 : 10 ≤ t) (h2 : t < 14) : (rb_W g h).set a (rb_ad g a, .inl (rb_tc g t, rb_len a, .inl (upd (rb_hI h a) i v))) = rb_W g (rb_sI h a i v) := by
  refine rb_W_set g ?_ ?_
  · rw [rb_ent_i g _ ht h1 h2]
    refine congrArg (fun f => Sum.inl (rb_tc g t, rb_len a, Sum.inl f)) (funext fun j => ?_)
    show (if a = a then (if j = i then v else h.1 a j) else h.1 a j) = upd (h.1 a) i v j
    rw [if_pos rfl]
    rfl
  · intro j hj
    have e : rb_hI (rb_sI h a i v) j = rb_hI h j := funext fun k => by show (if j = a then _ else _) = _; rw [if_neg hj]; rfl
    unfold rb_ent
    rw [e]
    rfl
theorem rb_W_cp (g : rb_G) (h : rb_H) {a b sp dp n t : Nat} (ht : rb_ty b = t) (h1 : 10 ≤ t) (h2 : t < 14) : (rb_W g h).set b (rb_ad g b, .inl (rb_tc g t, rb_len b, .inl (va_cpy (rb_hI h a) (rb_hI h b) sp dp n))) = rb_W g (rb_cp h a b sp dp n) := by
  refine rb_W_set g ?_ ?_
  · rw [rb_ent_i g _ ht h1 h2]
    refine congrArg (fun f => Sum.inl (rb_tc g t, rb_len b, Sum.inl f)) (funext fun j => ?_)
    show (if b = b then _ else _) = _
    rw [if_pos rfl]
    rfl
  · intro j hj
    have e : rb_hI (rb_cp h a b sp dp n) j = rb_hI h j := funext fun k => by show (if j = b then _ else _) = _; rw [if_neg hj]; rfl
    unfold rb_ent
    rw [e]
    rfl
theorem rb_W_sJ (g : rb_G) (h : rb_H) {a i : Nat} (v : Int64) (ht : rb_ty a = 14) : (rb_W g h).set a (rb_ad g a, .inl (rb_tc g 14, rb_len a, .inr (.inl (vp_updL (rb_hJ h a) i v)))) = rb_W g (rb_sJ h a i v) := by
  refine rb_W_set g ?_ ?_
  · rw [rb_ent_l g _ ht]
    refine congrArg (fun f => Sum.inl (rb_tc g 14, rb_len a, Sum.inr (Sum.inl f))) (funext fun j => ?_)
    show (if a = a then (if j = i then v else h.2.1 a j) else h.2.1 a j) = vp_updL (h.2.1 a) i v j
    rw [if_pos rfl]
    rfl
  · intro j hj
    have e : rb_hJ (rb_sJ h a i v) j = rb_hJ h j := funext fun k => by show (if j = a then _ else _) = _; rw [if_neg hj]; rfl
    unfold rb_ent
    rw [e]
    rfl
theorem rb_fs_at (g : rb_G) (h : rb_H) (c i : Nat) {k : Nat} (hk : k < rb_nf c) : ((List.range (rb_nf c)).map (rb_fv g h c i))[k]? = some (rb_fv g h c i k) := by
  rw [List.getElem?_map, List.getElem?_range hk]
  rfl
theorem rb_fs_set (g : rb_G) {h h' : rb_H} {c i k : Nat} {v : Value} (h1 : rb_fv g h' c i k = v) (h2 : ∀ j, j ≠ k → rb_fv g h' c i j = rb_fv g h c i j) : ((List.range (rb_nf c)).map (rb_fv g h c i)).set k v = (List.range (rb_nf c)).map (rb_fv g h' c i) := by
  apply List.ext_getElem?
  intro j
  by_cases hj : j < rb_nf c
  · rw [rb_fs_at g h' c i hj]
    by_cases hij : k = j
    · subst hij
      rw [List.getElem?_set_self (by rw [List.length_map, List.length_range]; exact hj), h1]
    · rw [List.getElem?_set_ne hij, rb_fs_at g h c i hj, h2 j (fun q => hij q.symm)]
  · rw [List.getElem?_eq_none (by rw [List.length_set, List.length_map, List.length_range]; omega), List.getElem?_eq_none (by rw [List.length_map, List.length_range]; omega)]
/-- writing a number into a field -/
theorem rb_W_sF (g : rb_G) (h : rb_H) {a c k : Nat} (v : Int32) (ht : rb_ty a = c) (h1 : c < 10) (hk : rb_fk c k = 0) : (rb_W g h).set a (rb_ad g a, .inr (c, ((List.range (rb_nf c)).map (rb_fv g h c a)).set k (.int v))) = rb_W g (rb_sF h a k v) := by
  refine rb_W_set g ?_ ?_
  · rw [rb_ent_o g _ ht h1]
    refine congrArg (fun f => Sum.inr (c, f)) (rb_fs_set g ?_ ?_).symm
    · unfold rb_fv
      rw [hk]
      show Value.int (if a = a then (if k = k then v else _) else _) = _
      rw [if_pos rfl, if_pos rfl]
    · intro j hj
      unfold rb_fv
      have e : rb_hF (rb_sF h a k v) a j = rb_hF h a j := by show (if a = a then (if j = k then v else _) else _) = _; rw [if_pos rfl, if_neg hj]; rfl
      rw [e]
      rfl
  · intro j hj
    have e : rb_fv g (rb_sF h a k v) (rb_ty j) j = rb_fv g h (rb_ty j) j := funext fun q => by
      have e : rb_hF (rb_sF h a k v) j q = rb_hF h j q := by show (if j = a then _ else _) = _; rw [if_neg hj]; rfl
      unfold rb_fv
      rw [e]
      rfl
    unfold rb_ent
    rw [e]
    rfl
/-- writing one of the references that change: its object is the only one of its class -/
theorem rb_W_sR (g : rb_G) (h : rb_H) {a c k n r : Nat} (ht : rb_ty a = c) (h1 : c < 10) (hk : rb_fk c k = n + 2) (hr : r ≠ 0) (hone : ∀ j, rb_ty j = c → j = a) (hk1 : ∀ j q, rb_ty j < 10 → rb_fk (rb_ty j) q = n + 2 → rb_ty j = c ∧ q = k) : (rb_W g h).set a (rb_ad g a, .inr (c, ((List.range (rb_nf c)).map (rb_fv g h c a)).set k (.ref (rb_ad g r)))) = rb_W g (rb_sR h n r) := by
  have other : ∀ c' i q, rb_fk c' q ≠ n + 2 → rb_fv g (rb_sR h n r) c' i q = rb_fv g h c' i q := by
    intro c' i q hq
    unfold rb_fv
    split
    · rfl
    · rfl
    · rename_i n' e
      have hn : n' ≠ n := fun z => hq (by rw [e, z])
      have e2 : rb_hR (rb_sR h n r) n' = rb_hR h n' := by show (if n' = n then _ else _) = _; rw [if_neg hn]; rfl
      rw [e2]
  refine rb_W_set g ?_ ?_
  · rw [rb_ent_o g _ ht h1]
    refine congrArg (fun f => Sum.inr (c, f)) (rb_fs_set g ?_ ?_).symm
    · unfold rb_fv
      rw [hk]
      have e2 : rb_hR (rb_sR h n r) n = r := by show (if n = n then _ else _) = _; rw [if_pos rfl]
      show (if rb_hR (rb_sR h n r) n = 0 then _ else _) = _
      rw [e2, if_neg hr]
    · intro j hj
      exact other c a j (fun z => hj (hk1 a j (by rw [ht]; exact h1) (by rw [ht]; exact z)).2)
  · intro j hj
    have key : rb_ty j < 10 → (List.range (rb_nf (rb_ty j))).map (rb_fv g (rb_sR h n r) (rb_ty j) j) = (List.range (rb_nf (rb_ty j))).map (rb_fv g h (rb_ty j) j) := by
      intro hl
      apply List.map_congr_left
      intro q _
      exact other _ j q (fun z => hj (hone j (hk1 j q hl z).1))
    unfold rb_ent
    by_cases hl : rb_ty j < 10
    · rw [if_pos hl, if_pos hl, key hl]
    · rw [if_neg hl, if_neg hl]
      rfl
def rb_A (g : rb_G) : Nat → Prop := fun q => ∃ i, i < rb_N ∧ q = rb_ad g i
def rb_Dj (g : rb_G) : Prop := ∀ i j, i < rb_N → j < rb_N → rb_ad g i = rb_ad g j → i = j
theorem rb_va_D {g : rb_G} (hj : rb_Dj g) (h : rb_H) : va_D (rb_A g) (rb_W g h) := by
  have inv : ∀ (k : Nat) (q : Nat × va_E), (rb_W g h)[k]? = some q → k < rb_N ∧ q = (rb_ad g k, rb_ent g h k) := by
    intro k q hq
    have hk : k < rb_N := by
      have := (List.getElem?_eq_some_iff.mp hq).1
      rw [rb_W_len] at this
      exact this
    rw [rb_W_at g h hk] at hq
    exact ⟨hk, (Option.some.inj hq).symm⟩
  refine ⟨fun i j p q hp hq e => ?_, fun k q hq => ?_⟩
  · obtain ⟨a1, rfl⟩ := inv i p hp
    obtain ⟨b1, rfl⟩ := inv j q hq
    exact hj i j a1 b1 e
  · obtain ⟨a1, rfl⟩ := inv k q hq
    exact ⟨k, a1, rfl⟩
def rb_tys (g : rb_G) : List (ClassId × FieldType) := [(rb_tc g 10, .int), (rb_tc g 11, .boolean), (rb_tc g 12, .char), (rb_tc g 13, .byte), (rb_tc g 14, .long), (rb_tc g 15, .object "RentBoard$State"), (rb_tc g 16, .array .int)]
