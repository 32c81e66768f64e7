/-! more rows of constructors -/
def rm_i (g : rb_G) (t N : Nat) : va_E := .inl (rb_tc g (10 + t), (N, .inl fun _ => 0))
def rm_l (g : rb_G) (N : Nat) : va_E := .inl (rb_tc g 14, (N, .inr (.inl fun _ => 0)))
/-- an array of arrays of ints, behind one another -/
def rm_grid (g : rb_G) (a N K : Nat) : List va_E := .inl (rb_tc g 16, (N, .inr (.inr (.inr (.inr fun j => some (a + 1 + j)))))) :: List.replicate N (rm_i g 0 K)
/-- what is asked of 'new int[n][k]' -/
def rm_Multi : Prop := ∀ {X : rb_X} {g : rb_G} {B q o nL d mc ms cs ss pc idx : Nat} {Q : State → Prop} {cc : ByteArray} {L : List va_E} {lv : List (Nat × Value)} {st : List Value} {n k : Int32} {N K : Nat}, rm_Cx X g B q o cc nL d mc ms → decode cc pc = .ok (.multianewarray idx 2, 4) → Cond.classLink (rb_on o) idx "[[I" ∈ rb_tbl → ¬ n < 0 → ¬ k < 0 → n.toNatClampNeg = N → k.toNatClampNeg = K → N ≤ 1000 → K ≤ 1000 → cs + (1 + N) ≤ mc → ss + (N + N * K) ≤ ms →
  rm_Ok X g q nL (cs + 1 + N) (ss + N + N * K) Q (L ++ rm_grid g (q + L.length) N K) (pc + 4) lv (.ref (q + L.length) :: st) → rm_Ok X g q nL cs ss Q L pc lv (.int k :: .int n :: st)
section RM3
variable {X : rb_X} {g : rb_G} {B q o nL d mc ms cs ss pc idx : Nat} {Q : State → Prop} {cc : ByteArray} {L : List va_E} {lv : List (Nat × Value)} {st : List Value}
theorem rm_getf (C : rm_Cx X g B q o cc nL d mc ms) {ci k j : Nat} {fs : List Value} {v : Value} (hci : ci < 10) (hdg : decode cc pc = .ok (.getfield idx, 3)) (hf : rb_fl o idx = some (ci, k)) (hL : L[j]? = some (.inr (ci, fs))) (hv : fs[k]? = some v) (kk : rm_Ok X g q nL cs ss Q L (pc + 3) lv (v :: st)) : rm_Ok X g q nL cs ss Q L pc lv (.ref (q + j) :: st) := by
  obtain ⟨p, l, e, R, s, m, args, below, meth, c⟩ := X
  obtain ⟨hx, hb, hml, hown, hts, hR, hC, hq⟩ := C
  obtain ⟨⟨ha, hk⟩, hwd⟩ := rb_fl_ok hf
  dsimp only at ha hk hwd
  intro H locs ls hz hP hS hl
  exact va_get (D := rb_D g) (cl := rb_cl) (ws := rm_ws q L) (C := (rb_cq ci).1) (T := (rb_cq ci).2.1) (N := (rb_cq ci).2.2) (ci := ci) hx hb hts (rb_in ci hci) hown hC.1 hP j (rm_ws_at hL) (rb_cl_at ci hci) k hk (hts _ hwd) (fun _ h => h) (v := v) hv hdg (kk H locs ls hz hP hS hl)
theorem rm_goto (C : rm_Cx X g B q o cc nL d mc ms) {off : Int} {a : Nat} (hdg : decode cc pc = .ok (.goto off, 3)) (e : (pc : Int) + off = (a : Int)) (k : rm_Ok X g q nL cs ss Q L a lv st) : rm_Ok X g q nL cs ss Q L pc lv st := by
  obtain ⟨p, l, e', R, s, m, args, below, meth, c⟩ := X
  obtain ⟨hx, hb, -⟩ := C
  intro H locs ls hz hP hS hl
  exact lv_goto hx hb hdg e (k H locs ls hz hP hS hl)
theorem rm_istore_n (C : rm_Cx X g B q o cc nL d mc ms) {j : Fin 4} {x : Int32} {lv' : List (Nat × Value)} (hdg : decode cc pc = .ok (.istore_n j, 1)) (hj : j.val < nL) (hlv : rb_ls1 j.val (.int x) lv = lv') (k : rm_Ok X g q nL cs ss Q L (pc + 1) lv' st) : rm_Ok X g q nL cs ss Q L pc lv (.int x :: st) := by
  obtain ⟨p, l, e', R, s, m, args, below, meth, c⟩ := X
  obtain ⟨hx, hb, -⟩ := C
  intro H locs ls hz hP hS hl
  exact lv_istore_n hx hb hdg rfl hl hj hlv (fun ls hl => k H locs ls hz hP hS hl)
theorem rm_iinc (C : rm_Cx X g B q o cc nL d mc ms) {j : Nat} {n : Int} {x : Int32} {i : Nat} {lv' : List (Nat × Value)} (hdg : decode cc pc = .ok (.iinc j n, 3)) (hi : lv[i]? = some (j, .int x)) (hj : j < nL) (hlv : rb_ls1 j (.int (x + Int32.ofInt n)) lv = lv') (k : rm_Ok X g q nL cs ss Q L (pc + 3) lv' st) : rm_Ok X g q nL cs ss Q L pc lv st := by
  obtain ⟨p, l, e', R, s, m, args, below, meth, c⟩ := X
  obtain ⟨hx, hb, -⟩ := C
  intro H locs ls hz hP hS hl
  exact lv_iinc hx hb hdg hl hi rfl hj hlv (fun ls hl => k H locs ls hz hP hS hl)
end RM3
section RM4
variable {X : rb_X} {g : rb_G} {B q o nL d mc ms cs ss pc idx : Nat} {Q : State → Prop} {cc : ByteArray} {L : List va_E} {lv : List (Nat × Value)} {st : List Value}
theorem rm_ge (C : rm_Cx X g B q o cc nL d mc ms) {off : Int} {a : Nat} {x y : Int32} (hdg : decode cc pc = .ok (.if_icmp .ge off, 3)) (e : (pc : Int) + off = (a : Int)) (k1 : y ≤ x → rm_Ok X g q nL cs ss Q L a lv st) (k2 : ¬ y ≤ x → rm_Ok X g q nL cs ss Q L (pc + 3) lv st) : rm_Ok X g q nL cs ss Q L pc lv (.int y :: .int x :: st) := by
  obtain ⟨p, l, e', R, s, m, args, below, meth, c⟩ := X
  obtain ⟨hx, hb, -⟩ := C
  intro H locs ls hz hP hS hl
  exact lv_icmp_ge hx hb hdg e (fun z => k1 z H locs ls hz hP hS hl) (fun z => k2 z H locs ls hz hP hS hl)
end RM4
