/-! what stays as it is: all arrays and fields but those named (fields of the model: 1000 and the field; its references: 2000 and the number) -/
def fid (a i : Nat) : Nat := if a = 49 then 1000 + i else a
def Ag (L : List Nat) (h h' : rb_H) : Prop := (∀ a, a ∉ L → ∀ i, rb_hI h' a i = rb_hI h a i) ∧ (∀ a, a ∉ L → ∀ i, rb_hJ h' a i = rb_hJ h a i) ∧ (∀ a i, fid a i ∉ L → rb_hF h' a i = rb_hF h a i) ∧ ∀ n, 2000 + n ∉ L → rb_hR h' n = rb_hR h n
theorem Ag_refl (L : List Nat) (h : rb_H) : Ag L h h := ⟨fun _ _ _ => rfl, fun _ _ _ => rfl, fun _ _ _ => rfl, fun _ _ => rfl⟩
section
variable {L L' : List Nat} {h h' h'' : rb_H}
theorem Ag_trans (h1 : Ag L h h') (h2 : Ag L h' h'') : Ag L h h'' :=
  ⟨fun a ha i => (h2.1 a ha i).trans (h1.1 a ha i), fun a ha i => (h2.2.1 a ha i).trans (h1.2.1 a ha i), fun a i ha => (h2.2.2.1 a i ha).trans (h1.2.2.1 a i ha), fun n hn => (h2.2.2.2 n hn).trans (h1.2.2.2 n hn)⟩
theorem Ag_mono (hs : ∀ x, x ∈ L → x ∈ L') (h1 : Ag L h h') : Ag L' h h' :=
  ⟨fun a ha i => h1.1 a (fun z => ha (hs a z)) i, fun a ha i => h1.2.1 a (fun z => ha (hs a z)) i, fun a i ha => h1.2.2.1 a i (fun z => ha (hs _ z)), fun n hn => h1.2.2.2 n (fun z => hn (hs _ z))⟩
theorem Ag_sI {a : Nat} {i : Nat} {v : Int32} (ha : a ∈ L) (h1 : Ag L h h') : Ag L h (rb_sI h' a i v) :=
  ⟨fun b hb j => by rw [hI_sI, if_neg (by rintro ⟨rfl, -⟩; exact hb ha)]; exact h1.1 b hb j, fun b hb j => h1.2.1 b hb j, fun b j hb => h1.2.2.1 b j hb, fun n hn => h1.2.2.2 n hn⟩
theorem Ag_sJ {a : Nat} {i : Nat} {v : Int64} (ha : a ∈ L) (h1 : Ag L h h') : Ag L h (rb_sJ h' a i v) :=
  ⟨fun b hb j => h1.1 b hb j, fun b hb j => by rw [hJ_sJ, if_neg (by rintro ⟨rfl, -⟩; exact hb ha)]; exact h1.2.1 b hb j, fun b j hb => h1.2.2.1 b j hb, fun n hn => h1.2.2.2 n hn⟩
theorem Ag_sF {a : Nat} {k : Nat} {v : Int32} (ha : fid a k ∈ L) (h1 : Ag L h h') : Ag L h (rb_sF h' a k v) :=
  ⟨fun b hb j => h1.1 b hb j, fun b hb j => h1.2.1 b hb j, fun b j hb => by rw [hF_sF, if_neg (fun z => hb (by rw [z.1, z.2]; exact ha))]; exact h1.2.2.1 b j hb, fun n hn => h1.2.2.2 n hn⟩
theorem Ag_sR {n v : Nat} (ha : 2000 + n ∈ L) (h1 : Ag L h h') : Ag L h (rb_sR h' n v) :=
  ⟨fun b hb j => h1.1 b hb j, fun b hb j => h1.2.1 b hb j, fun b j hb => h1.2.2.1 b j hb, fun m hm => by rw [hR_sR, if_neg (fun z => hm (by rw [z]; exact ha))]; exact h1.2.2.2 m hm⟩
theorem Ag_cp {a b sp dp n : Nat} (hb : b ∈ L) (h1 : Ag L h h') : Ag L h (rb_cp h' a b sp dp n) :=
  ⟨fun x hx j => by rw [hI_cp, if_neg (by rintro ⟨rfl, -⟩; exact hx hb)]; exact h1.1 x hx j, fun x hx j => h1.2.1 x hx j, fun x j hx => h1.2.2.1 x j hx, fun m hm => h1.2.2.2 m hm⟩
theorem AgI (h1 : Ag L h h') {a : Nat} (ha : a ∉ L) (i : Nat) : rb_hI h' a i = rb_hI h a i := h1.1 a ha i
theorem AgJ (h1 : Ag L h h') {a : Nat} (ha : a ∉ L) (i : Nat) : rb_hJ h' a i = rb_hJ h a i := h1.2.1 a ha i
theorem AgF (h1 : Ag L h h') {a i : Nat} (ha : fid a i ∉ L) : rb_hF h' a i = rb_hF h a i := h1.2.2.1 a i ha
theorem AgR (h1 : Ag L h h') {n : Nat} (hn : 2000 + n ∉ L) : rb_hR h' n = rb_hR h n := h1.2.2.2 n hn
/-- a State's five -/
def sIds (o : Nat) : List Nat := [o, o + 1, o + 2, o + 3, o + 4]
theorem RS_ag {o : Nat} {B : sBd} (hR : RS h o B) (hA : Ag L h h') (h0 : o ≠ 49) (hL : ∀ x, x ∈ sIds o → x ∉ L) : RS h' o B := by
  have m : ∀ k, k < 5 → o + k ∉ L := fun k hk => hL _ (by unfold sIds; simp only [List.mem_cons]; omega)
  have f : ∀ i, fid o i ∉ L := fun i => by unfold fid; rw [if_neg h0]; exact m 0 (by omega)
  obtain ⟨r1, r2, r3, r4, r5⟩ := hR
  refine ⟨(AgF hA (f 5)).trans r1, (AgF hA (f 6)).trans r2, (AgF hA (f 7)).trans r3, (AgF hA (f 8)).trans r4, fun i hi => ?_⟩
  obtain ⟨q1, q2, q3, q4⟩ := r5 i hi
  exact ⟨(AgI hA (m 1 (by omega)) i).trans q1, (AgI hA (m 2 (by omega)) i).trans q2, (AgI hA (m 3 (by omega)) i).trans q3, (AgI hA (m 4 (by omega)) i).trans q4⟩
theorem RM_ag {a : Nat} {B : sBd} (hR : RM h a B) (hA : Ag L h h') (hL : ∀ x, x ∈ [1002, a, 51] → x ∉ L) : RM h' a B := by
  have m1 : fid 49 2 ∉ L := hL _ (List.mem_cons_self ..)
  have m2 : a ∉ L := hL _ (by simp)
  have m3 : 51 ∉ L := hL _ (by simp)
  obtain ⟨r1, r2, r3, r4, r5⟩ := hR
  refine ⟨(AgF hA m1).trans r1, (AgI hA m2 _).trans r2, (AgI hA m2 _).trans r3, (AgI hA m2 _).trans r4, fun i hi => ?_⟩
  obtain ⟨q1, q2, q3, q4⟩ := r5 i hi
  exact ⟨(AgI hA m2 i).trans q1, (AgI hA m3 i).trans q2, (AgI hA m2 _).trans q3, (AgI hA m2 _).trans q4⟩
end
/-- a copy of a State -/
theorem S_copyFrom {h : rb_H} {o o2 : Nat} {B : sBd} (hR : RS h o2 B) (hW : WF B) (hd : o + 5 ≤ o2 ∨ o2 + 5 ≤ o) (h0 : o ≠ 49) : ∃ h', fS_copyFrom o o2 h = some h' ∧ RS h' o B ∧ Ag (sIds o) h h' := by
  obtain ⟨r1, r2, r3, r4, r5⟩ := hR
  have hN := hW.1
  refine ⟨_, rfl, ?_, ?_⟩
  · have e1 : ¬ o2 = o := by omega
    refine ⟨?_, ?_, ?_, ?_, fun i hi => ?_⟩
    · simp [hI_sI, hI_sJ, hI_sF, hI_sR, hI_cp, hJ_sI, hJ_sJ, hJ_sF, hJ_sR, hJ_cp, hF_sI, hF_sJ, hF_sF, hF_sR, hF_cp, hR_sI, hR_sJ, hR_sF, hR_sR, hR_cp, e1, r1]
    · simp [hI_sI, hI_sJ, hI_sF, hI_sR, hI_cp, hJ_sI, hJ_sJ, hJ_sF, hJ_sR, hJ_cp, hF_sI, hF_sJ, hF_sF, hF_sR, hF_cp, hR_sI, hR_sJ, hR_sF, hR_sR, hR_cp, e1, r2]
    · simp [hI_sI, hI_sJ, hI_sF, hI_sR, hI_cp, hJ_sI, hJ_sJ, hJ_sF, hJ_sR, hJ_cp, hF_sI, hF_sJ, hF_sF, hF_sR, hF_cp, hR_sI, hR_sJ, hR_sF, hR_sR, hR_cp, e1, r3]
    · simp [hI_sI, hI_sJ, hI_sF, hI_sR, hI_cp, hJ_sI, hJ_sJ, hJ_sF, hJ_sR, hJ_cp, hF_sI, hF_sJ, hF_sF, hF_sR, hF_cp, hR_sI, hR_sJ, hR_sF, hR_sR, hR_cp, e1, r4]
    · obtain ⟨q1, q2, q3, q4⟩ := r5 i hi
      have n1 : ¬ o2 + 1 = o + 1 := by omega
      have hi8 : i < 8 := by omega
      refine ⟨?_, ?_, ?_, ?_⟩
      · simp [hI_sI, hI_sJ, hI_sF, hI_sR, hI_cp, hJ_sI, hJ_sJ, hJ_sF, hJ_sR, hJ_cp, hF_sI, hF_sJ, hF_sF, hF_sR, hF_cp, hR_sI, hR_sJ, hR_sF, hR_sR, hR_cp, hi8, q1]
      · simp [hI_sI, hI_sJ, hI_sF, hI_sR, hI_cp, hJ_sI, hJ_sJ, hJ_sF, hJ_sR, hJ_cp, hF_sI, hF_sJ, hF_sF, hF_sR, hF_cp, hR_sI, hR_sJ, hR_sF, hR_sR, hR_cp, hi8, q2, show ¬ o2 + 2 = o + 1 by omega]
      · simp [hI_sI, hI_sJ, hI_sF, hI_sR, hI_cp, hJ_sI, hJ_sJ, hJ_sF, hJ_sR, hJ_cp, hF_sI, hF_sJ, hF_sF, hF_sR, hF_cp, hR_sI, hR_sJ, hR_sF, hR_sR, hR_cp, hi8, q3, show ¬ o2 + 3 = o + 1 by omega, show ¬ o2 + 3 = o + 2 by omega]
      · simp [hI_sI, hI_sJ, hI_sF, hI_sR, hI_cp, hJ_sI, hJ_sJ, hJ_sF, hJ_sR, hJ_cp, hF_sI, hF_sJ, hF_sF, hF_sR, hF_cp, hR_sI, hR_sJ, hR_sF, hR_sR, hR_cp, hi8, q4, show ¬ o2 + 4 = o + 1 by omega, show ¬ o2 + 4 = o + 2 by omega, show ¬ o2 + 4 = o + 3 by omega]
  · have f : ∀ k, fid o k ∈ sIds o := fun k => by unfold fid sIds; rw [if_neg h0]; exact List.mem_cons_self ..
    have m : ∀ k, k < 5 → o + k ∈ sIds o := fun k hk => by unfold sIds; simp only [List.mem_cons]; omega
    exact Ag_sF (f 8) (Ag_sF (f 7) (Ag_sF (f 6) (Ag_sF (f 5) (Ag_cp (m 4 (by omega)) (Ag_cp (m 3 (by omega)) (Ag_cp (m 2 (by omega)) (Ag_cp (m 1 (by omega)) (Ag_refl _ h))))))))
