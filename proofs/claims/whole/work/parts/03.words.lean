/-! the words of the tables, by their places -/
def rb_tbl : List Cond := lw_tbl.filter goodWord
theorem rb_w1 (i : Nat) {w : Cond} (h : tables_1_1[i]? = some w) (hg : goodWord w = true) : w ∈ rb_tbl := by
  have h : w ∈ tables_1_1 := List.mem_of_getElem? h
  exact List.mem_filter.mpr ⟨List.mem_append_right _ (List.mem_append_left _ h), hg⟩
theorem rb_w2 (i : Nat) {w : Cond} (h : tables_1_2[i]? = some w) (hg : goodWord w = true) : w ∈ rb_tbl := by
  have h : w ∈ tables_1_2 := List.mem_of_getElem? h
  exact List.mem_filter.mpr ⟨List.mem_append_right _ (List.mem_append_right _ (List.mem_append_left _ h)), hg⟩
theorem rb_w3 (i : Nat) {w : Cond} (h : tables_1_3[i]? = some w) (hg : goodWord w = true) : w ∈ rb_tbl := by
  have h : w ∈ tables_1_3 := List.mem_of_getElem? h
  exact List.mem_filter.mpr ⟨List.mem_append_right _ (List.mem_append_right _ (List.mem_append_right _ (List.mem_append_left _ h))), hg⟩
theorem rb_w4 (i : Nat) {w : Cond} (h : tables_1_4[i]? = some w) (hg : goodWord w = true) : w ∈ rb_tbl := by
  have h : w ∈ tables_1_4 := List.mem_of_getElem? h
  exact List.mem_filter.mpr ⟨List.mem_append_right _ (List.mem_append_right _ (List.mem_append_right _ (List.mem_append_right _ (List.mem_append_left _ h)))), hg⟩
theorem rb_w5 (i : Nat) {w : Cond} (h : tables_1_5[i]? = some w) (hg : goodWord w = true) : w ∈ rb_tbl := by
  have h : w ∈ tables_1_5 := List.mem_of_getElem? h
  exact List.mem_filter.mpr ⟨List.mem_append_right _ (List.mem_append_right _ (List.mem_append_right _ (List.mem_append_right _ (List.mem_append_right _ (List.mem_append_left _ h))))), hg⟩
theorem rb_w6 (i : Nat) {w : Cond} (h : tables_1_6[i]? = some w) (hg : goodWord w = true) : w ∈ rb_tbl := by
  have h : w ∈ tables_1_6 := List.mem_of_getElem? h
  exact List.mem_filter.mpr ⟨List.mem_append_right _ (List.mem_append_right _ (List.mem_append_right _ (List.mem_append_right _ (List.mem_append_right _ (List.mem_append_right _ (List.mem_append_left _ h)))))), hg⟩
theorem rb_w7 (i : Nat) {w : Cond} (h : tables_1_7[i]? = some w) (hg : goodWord w = true) : w ∈ rb_tbl := by
  have h : w ∈ tables_1_7 := List.mem_of_getElem? h
  exact List.mem_filter.mpr ⟨List.mem_append_right _ (List.mem_append_right _ (List.mem_append_right _ (List.mem_append_right _ (List.mem_append_right _ (List.mem_append_right _ (List.mem_append_right _ (List.mem_append_left _ h))))))), hg⟩
theorem rb_w8 (i : Nat) {w : Cond} (h : tables_1_8[i]? = some w) (hg : goodWord w = true) : w ∈ rb_tbl := by
  have h : w ∈ tables_1_8 := List.mem_of_getElem? h
  exact List.mem_filter.mpr ⟨List.mem_append_right _ (List.mem_append_right _ (List.mem_append_right _ (List.mem_append_right _ (List.mem_append_right _ (List.mem_append_right _ (List.mem_append_right _ (List.mem_append_right _ h))))))), hg⟩
theorem rb_v1 (i : Nat) {w : Cond} (h : tables_1_1[i]? = some w) : w ∈ lw_tbl := by
  have h : w ∈ tables_1_1 := List.mem_of_getElem? h
  exact List.mem_append_right _ (List.mem_append_left _ h)
theorem rb_v2 (i : Nat) {w : Cond} (h : tables_1_2[i]? = some w) : w ∈ lw_tbl := by
  have h : w ∈ tables_1_2 := List.mem_of_getElem? h
  exact List.mem_append_right _ (List.mem_append_right _ (List.mem_append_left _ h))
theorem rb_v3 (i : Nat) {w : Cond} (h : tables_1_3[i]? = some w) : w ∈ lw_tbl := by
  have h : w ∈ tables_1_3 := List.mem_of_getElem? h
  exact List.mem_append_right _ (List.mem_append_right _ (List.mem_append_right _ (List.mem_append_left _ h)))
theorem rb_v4 (i : Nat) {w : Cond} (h : tables_1_4[i]? = some w) : w ∈ lw_tbl := by
  have h : w ∈ tables_1_4 := List.mem_of_getElem? h
  exact List.mem_append_right _ (List.mem_append_right _ (List.mem_append_right _ (List.mem_append_right _ (List.mem_append_left _ h))))
theorem rb_v5 (i : Nat) {w : Cond} (h : tables_1_5[i]? = some w) : w ∈ lw_tbl := by
  have h : w ∈ tables_1_5 := List.mem_of_getElem? h
  exact List.mem_append_right _ (List.mem_append_right _ (List.mem_append_right _ (List.mem_append_right _ (List.mem_append_right _ (List.mem_append_left _ h)))))
theorem rb_v6 (i : Nat) {w : Cond} (h : tables_1_6[i]? = some w) : w ∈ lw_tbl := by
  have h : w ∈ tables_1_6 := List.mem_of_getElem? h
  exact List.mem_append_right _ (List.mem_append_right _ (List.mem_append_right _ (List.mem_append_right _ (List.mem_append_right _ (List.mem_append_right _ (List.mem_append_left _ h))))))
theorem rb_v7 (i : Nat) {w : Cond} (h : tables_1_7[i]? = some w) : w ∈ lw_tbl := by
  have h : w ∈ tables_1_7 := List.mem_of_getElem? h
  exact List.mem_append_right _ (List.mem_append_right _ (List.mem_append_right _ (List.mem_append_right _ (List.mem_append_right _ (List.mem_append_right _ (List.mem_append_right _ (List.mem_append_left _ h)))))))
theorem rb_v8 (i : Nat) {w : Cond} (h : tables_1_8[i]? = some w) : w ∈ lw_tbl := by
  have h : w ∈ tables_1_8 := List.mem_of_getElem? h
  exact List.mem_append_right _ (List.mem_append_right _ (List.mem_append_right _ (List.mem_append_right _ (List.mem_append_right _ (List.mem_append_right _ (List.mem_append_right _ (List.mem_append_right _ h)))))))
theorem rb_ws1 (i : Nat) {y : MethodName} {n : Nat} (h : lw_privs_1[i]? = some (y, n)) : Cond.selects y.cls y y ∈ rb_tbl := by
  have h : (y, n) ∈ lw_privs_1 := List.mem_of_getElem? h
  exact List.mem_filter.mpr ⟨List.mem_append_left _ (List.mem_map.mpr ⟨(y, n), (List.mem_append_left _ h), rfl⟩), rfl⟩
theorem rb_ws2 (i : Nat) {y : MethodName} {n : Nat} (h : lw_privs_2[i]? = some (y, n)) : Cond.selects y.cls y y ∈ rb_tbl := by
  have h : (y, n) ∈ lw_privs_2 := List.mem_of_getElem? h
  exact List.mem_filter.mpr ⟨List.mem_append_left _ (List.mem_map.mpr ⟨(y, n), (List.mem_append_right _ (List.mem_append_left _ h)), rfl⟩), rfl⟩
theorem rb_ws3 (i : Nat) {y : MethodName} {n : Nat} (h : lw_privs_3[i]? = some (y, n)) : Cond.selects y.cls y y ∈ rb_tbl := by
  have h : (y, n) ∈ lw_privs_3 := List.mem_of_getElem? h
  exact List.mem_filter.mpr ⟨List.mem_append_left _ (List.mem_map.mpr ⟨(y, n), (List.mem_append_right _ (List.mem_append_right _ (List.mem_append_left _ h))), rfl⟩), rfl⟩
theorem rb_ws4 (i : Nat) {y : MethodName} {n : Nat} (h : lw_privs_4[i]? = some (y, n)) : Cond.selects y.cls y y ∈ rb_tbl := by
  have h : (y, n) ∈ lw_privs_4 := List.mem_of_getElem? h
  exact List.mem_filter.mpr ⟨List.mem_append_left _ (List.mem_map.mpr ⟨(y, n), (List.mem_append_right _ (List.mem_append_right _ (List.mem_append_right _ (List.mem_append_left _ h)))), rfl⟩), rfl⟩
theorem rb_ws5 (i : Nat) {y : MethodName} {n : Nat} (h : lw_privs_5[i]? = some (y, n)) : Cond.selects y.cls y y ∈ rb_tbl := by
  have h : (y, n) ∈ lw_privs_5 := List.mem_of_getElem? h
  exact List.mem_filter.mpr ⟨List.mem_append_left _ (List.mem_map.mpr ⟨(y, n), (List.mem_append_right _ (List.mem_append_right _ (List.mem_append_right _ (List.mem_append_right _ (List.mem_append_left _ h))))), rfl⟩), rfl⟩
theorem rb_ws6 (i : Nat) {y : MethodName} {n : Nat} (h : lw_privs_6[i]? = some (y, n)) : Cond.selects y.cls y y ∈ rb_tbl := by
  have h : (y, n) ∈ lw_privs_6 := List.mem_of_getElem? h
  exact List.mem_filter.mpr ⟨List.mem_append_left _ (List.mem_map.mpr ⟨(y, n), (List.mem_append_right _ (List.mem_append_right _ (List.mem_append_right _ (List.mem_append_right _ (List.mem_append_right _ h))))), rfl⟩), rfl⟩
/-- a method's own words -/
def rb_mo (q : rb_ME) : Prop :=
  plainName q.1.cls = true ∧ (q.1.cls ≠ "java/lang/invoke/MethodHandle" ∧ q.1.cls ≠ "java/lang/invoke/VarHandle" ∧ (parseMethodDescriptor q.1.desc).map (fun d => d.parameters.length) = some q.2.2.2.2.1) ∧
  Cond.code q.1 q.2.1 q.2.2.1 q.2.2.2.1 ∈ rb_tbl ∧ Cond.initialized q.1.cls ∈ rb_tbl ∧ q.2.2.1 ≤ 21 ∧ (if q.2.2.2.2.2 = 99 then Cond.static q.1 ∈ rb_tbl else Cond.instanceMethod q.1 ∈ rb_tbl ∧ Cond.selects q.1.cls q.1 q.1 ∈ rb_tbl)
theorem rb_cn8 : plainName "RentBoard" = true ∧ "RentBoard" ≠ "java/lang/invoke/MethodHandle" ∧ "RentBoard" ≠ "java/lang/invoke/VarHandle" := by decide +kernel
theorem rb_ci8 : Cond.initialized "RentBoard" ∈ rb_tbl := (rb_w1 1 rfl rfl)
theorem rb_cn0 : plainName "RentBoard$Facts" = true ∧ "RentBoard$Facts" ≠ "java/lang/invoke/MethodHandle" ∧ "RentBoard$Facts" ≠ "java/lang/invoke/VarHandle" := by decide +kernel
theorem rb_ci0 : Cond.initialized "RentBoard$Facts" ∈ rb_tbl := (rb_w1 8 rfl rfl)
theorem rb_cn1 : plainName "RentBoard$Lookahead" = true ∧ "RentBoard$Lookahead" ≠ "java/lang/invoke/MethodHandle" ∧ "RentBoard$Lookahead" ≠ "java/lang/invoke/VarHandle" := by decide +kernel
theorem rb_ci1 : Cond.initialized "RentBoard$Lookahead" ∈ rb_tbl := (rb_w1 10 rfl rfl)
theorem rb_cn2 : plainName "RentBoard$Past" = true ∧ "RentBoard$Past" ≠ "java/lang/invoke/MethodHandle" ∧ "RentBoard$Past" ≠ "java/lang/invoke/VarHandle" := by decide +kernel
theorem rb_ci2 : Cond.initialized "RentBoard$Past" ∈ rb_tbl := (rb_w1 7 rfl rfl)
theorem rb_cn3 : plainName "RentBoard$Row" = true ∧ "RentBoard$Row" ≠ "java/lang/invoke/MethodHandle" ∧ "RentBoard$Row" ≠ "java/lang/invoke/VarHandle" := by decide +kernel
theorem rb_ci3 : Cond.initialized "RentBoard$Row" ∈ rb_tbl := (rb_w1 3 rfl rfl)
theorem rb_cn4 : plainName "RentBoard$Rule" = true ∧ "RentBoard$Rule" ≠ "java/lang/invoke/MethodHandle" ∧ "RentBoard$Rule" ≠ "java/lang/invoke/VarHandle" := by decide +kernel
theorem rb_ci4 : Cond.initialized "RentBoard$Rule" ∈ rb_tbl := (rb_w1 4 rfl rfl)
theorem rb_cn5 : plainName "RentBoard$State" = true ∧ "RentBoard$State" ≠ "java/lang/invoke/MethodHandle" ∧ "RentBoard$State" ≠ "java/lang/invoke/VarHandle" := by decide +kernel
theorem rb_ci5 : Cond.initialized "RentBoard$State" ∈ rb_tbl := (rb_w1 6 rfl rfl)
theorem rb_cn6 : plainName "RentBoard$Text" = true ∧ "RentBoard$Text" ≠ "java/lang/invoke/MethodHandle" ∧ "RentBoard$Text" ≠ "java/lang/invoke/VarHandle" := by decide +kernel
theorem rb_ci6 : Cond.initialized "RentBoard$Text" ∈ rb_tbl := (rb_w1 2 rfl rfl)
theorem rb_cn7 : plainName "RentBoard$Walk" = true ∧ "RentBoard$Walk" ≠ "java/lang/invoke/MethodHandle" ∧ "RentBoard$Walk" ≠ "java/lang/invoke/VarHandle" := by decide +kernel
theorem rb_ci7 : Cond.initialized "RentBoard$Walk" ∈ rb_tbl := (rb_w1 9 rfl rfl)
theorem rb_cn9 : plainName "RentBoardModel" = true ∧ "RentBoardModel" ≠ "java/lang/invoke/MethodHandle" ∧ "RentBoardModel" ≠ "java/lang/invoke/VarHandle" := by decide +kernel
theorem rb_ci9 : Cond.initialized "RentBoardModel" ∈ rb_tbl := (rb_w1 11 rfl rfl)
theorem rb_cn12 : plainName "java/lang/Integer" = true ∧ "java/lang/Integer" ≠ "java/lang/invoke/MethodHandle" ∧ "java/lang/Integer" ≠ "java/lang/invoke/VarHandle" := by decide +kernel
theorem rb_ci12 : Cond.initialized "java/lang/Integer" ∈ rb_tbl := (rb_w1 22 rfl rfl)
theorem rb_cn10 : plainName "java/lang/String" = true ∧ "java/lang/String" ≠ "java/lang/invoke/MethodHandle" ∧ "java/lang/String" ≠ "java/lang/invoke/VarHandle" := by decide +kernel
theorem rb_ci10 : Cond.initialized "java/lang/String" ∈ rb_tbl := (rb_w1 5 rfl rfl)
theorem rb_cn11 : plainName "java/lang/StringLatin1" = true ∧ "java/lang/StringLatin1" ≠ "java/lang/invoke/MethodHandle" ∧ "java/lang/StringLatin1" ≠ "java/lang/invoke/VarHandle" := by decide +kernel
theorem rb_ci11 : Cond.initialized "java/lang/StringLatin1" ∈ rb_tbl := (rb_w1 14 rfl rfl)
theorem rb_cn13 : plainName "java/util/Arrays" = true ∧ "java/util/Arrays" ≠ "java/lang/invoke/MethodHandle" ∧ "java/util/Arrays" ≠ "java/lang/invoke/VarHandle" := by decide +kernel
theorem rb_ci13 : Cond.initialized "java/util/Arrays" ∈ rb_tbl := (rb_w1 23 rfl rfl)
theorem rb_cn15 : plainName "jdk/internal/util/Preconditions" = true ∧ "jdk/internal/util/Preconditions" ≠ "java/lang/invoke/MethodHandle" ∧ "jdk/internal/util/Preconditions" ≠ "java/lang/invoke/VarHandle" := by decide +kernel
theorem rb_ci15 : Cond.initialized "jdk/internal/util/Preconditions" ∈ rb_tbl := (rb_w1 16 rfl rfl)
theorem rb_mo_0 : rb_mo (rb_mt 0) := ⟨rb_cn10.1, ⟨rb_cn10.2.1, rb_cn10.2.2, by decide +kernel⟩, (rb_w1 74 rfl rfl), rb_ci10, Nat.le_of_ble_eq_true rfl, ⟨(rb_w1 72 rfl rfl), (rb_w1 73 rfl rfl)⟩⟩
theorem rb_mo_1 : rb_mo (rb_mt 1) := ⟨rb_cn10.1, ⟨rb_cn10.2.1, rb_cn10.2.2, by decide +kernel⟩, (rb_w1 78 rfl rfl), rb_ci10, Nat.le_of_ble_eq_true rfl, ⟨(rb_w1 76 rfl rfl), (rb_w1 77 rfl rfl)⟩⟩
theorem rb_mo_2 : rb_mo (rb_mt 2) := ⟨rb_cn8.1, ⟨rb_cn8.2.1, rb_cn8.2.2, by decide +kernel⟩, (rb_w2 70 rfl rfl), rb_ci8, Nat.le_of_ble_eq_true rfl, ⟨(rb_w2 68 rfl rfl), (rb_w2 69 rfl rfl)⟩⟩
theorem rb_mo_3 : rb_mo (rb_mt 3) := ⟨rb_cn6.1, ⟨rb_cn6.2.1, rb_cn6.2.2, by decide +kernel⟩, (rb_w2 74 rfl rfl), rb_ci6, Nat.le_of_ble_eq_true rfl, ⟨(rb_w2 72 rfl rfl), (rb_w2 73 rfl rfl)⟩⟩
theorem rb_mo_4 : rb_mo (rb_mt 4) := ⟨rb_cn8.1, ⟨rb_cn8.2.1, rb_cn8.2.2, by decide +kernel⟩, (rb_w2 78 rfl rfl), rb_ci8, Nat.le_of_ble_eq_true rfl, ⟨(rb_w2 76 rfl rfl), (rb_w2 77 rfl rfl)⟩⟩
theorem rb_mo_5 : rb_mo (rb_mt 5) := ⟨rb_cn6.1, ⟨rb_cn6.2.1, rb_cn6.2.2, by decide +kernel⟩, (rb_w2 82 rfl rfl), rb_ci6, Nat.le_of_ble_eq_true rfl, ⟨(rb_w2 80 rfl rfl), (rb_w2 81 rfl rfl)⟩⟩
theorem rb_mo_6 : rb_mo (rb_mt 6) := ⟨rb_cn8.1, ⟨rb_cn8.2.1, rb_cn8.2.2, by decide +kernel⟩, (rb_w2 86 rfl rfl), rb_ci8, Nat.le_of_ble_eq_true rfl, ⟨(rb_w2 84 rfl rfl), (rb_w2 85 rfl rfl)⟩⟩
theorem rb_mo_7 : rb_mo (rb_mt 7) := ⟨rb_cn5.1, ⟨rb_cn5.2.1, rb_cn5.2.2, by decide +kernel⟩, (rb_w2 90 rfl rfl), rb_ci5, Nat.le_of_ble_eq_true rfl, ⟨(rb_w2 88 rfl rfl), (rb_w2 89 rfl rfl)⟩⟩
theorem rb_mo_8 : rb_mo (rb_mt 8) := ⟨rb_cn8.1, ⟨rb_cn8.2.1, rb_cn8.2.2, by decide +kernel⟩, (rb_w2 97 rfl rfl), rb_ci8, Nat.le_of_ble_eq_true rfl, ⟨(rb_w2 96 rfl rfl), (rb_ws1 0 rfl)⟩⟩
theorem rb_mo_9 : rb_mo (rb_mt 9) := ⟨rb_cn8.1, ⟨rb_cn8.2.1, rb_cn8.2.2, by decide +kernel⟩, (rb_w2 106 rfl rfl), rb_ci8, Nat.le_of_ble_eq_true rfl, ⟨(rb_w2 105 rfl rfl), (rb_ws1 1 rfl)⟩⟩
theorem rb_mo_10 : rb_mo (rb_mt 10) := ⟨rb_cn6.1, ⟨rb_cn6.2.1, rb_cn6.2.2, by decide +kernel⟩, (rb_w2 111 rfl rfl), rb_ci6, Nat.le_of_ble_eq_true rfl, ⟨(rb_w2 109 rfl rfl), (rb_w2 110 rfl rfl)⟩⟩
theorem rb_mo_11 : rb_mo (rb_mt 11) := ⟨rb_cn10.1, ⟨rb_cn10.2.1, rb_cn10.2.2, by decide +kernel⟩, (rb_w2 115 rfl rfl), rb_ci10, Nat.le_of_ble_eq_true rfl, ⟨(rb_w2 113 rfl rfl), (rb_w2 114 rfl rfl)⟩⟩
theorem rb_mo_12 : rb_mo (rb_mt 12) := ⟨rb_cn10.1, ⟨rb_cn10.2.1, rb_cn10.2.2, by decide +kernel⟩, (rb_w2 119 rfl rfl), rb_ci10, Nat.le_of_ble_eq_true rfl, ⟨(rb_w2 117 rfl rfl), (rb_w2 118 rfl rfl)⟩⟩
theorem rb_mo_13 : rb_mo (rb_mt 13) := ⟨rb_cn10.1, ⟨rb_cn10.2.1, rb_cn10.2.2, by decide +kernel⟩, (rb_w2 123 rfl rfl), rb_ci10, Nat.le_of_ble_eq_true rfl, ⟨(rb_w2 121 rfl rfl), (rb_w2 122 rfl rfl)⟩⟩
theorem rb_mo_14 : rb_mo (rb_mt 14) := ⟨rb_cn11.1, ⟨rb_cn11.2.1, rb_cn11.2.2, by decide +kernel⟩, (rb_w2 127 rfl rfl), rb_ci11, Nat.le_of_ble_eq_true rfl, (rb_w2 126 rfl rfl)⟩
theorem rb_mo_15 : rb_mo (rb_mt 15) := ⟨rb_cn11.1, ⟨rb_cn11.2.1, rb_cn11.2.2, by decide +kernel⟩, (rb_w2 130 rfl rfl), rb_ci11, Nat.le_of_ble_eq_true rfl, (rb_w2 129 rfl rfl)⟩
theorem rb_mo_16 : rb_mo (rb_mt 16) := ⟨rb_cn11.1, ⟨rb_cn11.2.1, rb_cn11.2.2, by decide +kernel⟩, (rb_w2 137 rfl rfl), rb_ci11, Nat.le_of_ble_eq_true rfl, (rb_w2 136 rfl rfl)⟩
theorem rb_mo_17 : rb_mo (rb_mt 17) := ⟨rb_cn10.1, ⟨rb_cn10.2.1, rb_cn10.2.2, by decide +kernel⟩, (rb_w2 190 rfl rfl), rb_ci10, Nat.le_of_ble_eq_true rfl, ⟨(rb_w2 188 rfl rfl), (rb_w2 189 rfl rfl)⟩⟩
theorem rb_mo_18 : rb_mo (rb_mt 18) := ⟨rb_cn11.1, ⟨rb_cn11.2.1, rb_cn11.2.2, by decide +kernel⟩, (rb_w2 193 rfl rfl), rb_ci11, Nat.le_of_ble_eq_true rfl, (rb_w2 192 rfl rfl)⟩
theorem rb_mo_19 : rb_mo (rb_mt 19) := ⟨rb_cn10.1, ⟨rb_cn10.2.1, rb_cn10.2.2, by decide +kernel⟩, (rb_w2 196 rfl rfl), rb_ci10, Nat.le_of_ble_eq_true rfl, (rb_w2 195 rfl rfl)⟩
theorem rb_mo_20 : rb_mo (rb_mt 20) := ⟨rb_cn15.1, ⟨rb_cn15.2.1, rb_cn15.2.2, by decide +kernel⟩, (rb_w2 199 rfl rfl), rb_ci15, Nat.le_of_ble_eq_true rfl, (rb_w2 198 rfl rfl)⟩
theorem rb_mo_21 : rb_mo (rb_mt 21) := ⟨rb_cn8.1, ⟨rb_cn8.2.1, rb_cn8.2.2, by decide +kernel⟩, (rb_w2 209 rfl rfl), rb_ci8, Nat.le_of_ble_eq_true rfl, (rb_w2 208 rfl rfl)⟩
theorem rb_mo_22 : rb_mo (rb_mt 22) := ⟨rb_cn8.1, ⟨rb_cn8.2.1, rb_cn8.2.2, by decide +kernel⟩, (rb_w2 212 rfl rfl), rb_ci8, Nat.le_of_ble_eq_true rfl, (rb_w2 211 rfl rfl)⟩
theorem rb_mo_23 : rb_mo (rb_mt 23) := ⟨rb_cn6.1, ⟨rb_cn6.2.1, rb_cn6.2.2, by decide +kernel⟩, (rb_w2 216 rfl rfl), rb_ci6, Nat.le_of_ble_eq_true rfl, ⟨(rb_w2 214 rfl rfl), (rb_w2 215 rfl rfl)⟩⟩
theorem rb_mo_24 : rb_mo (rb_mt 24) := ⟨rb_cn5.1, ⟨rb_cn5.2.1, rb_cn5.2.2, by decide +kernel⟩, (rb_w2 221 rfl rfl), rb_ci5, Nat.le_of_ble_eq_true rfl, ⟨(rb_w2 219 rfl rfl), (rb_w2 220 rfl rfl)⟩⟩
theorem rb_mo_25 : rb_mo (rb_mt 25) := ⟨rb_cn6.1, ⟨rb_cn6.2.1, rb_cn6.2.2, by decide +kernel⟩, (rb_w2 225 rfl rfl), rb_ci6, Nat.le_of_ble_eq_true rfl, ⟨(rb_w2 223 rfl rfl), (rb_w2 224 rfl rfl)⟩⟩
theorem rb_mo_26 : rb_mo (rb_mt 26) := ⟨rb_cn6.1, ⟨rb_cn6.2.1, rb_cn6.2.2, by decide +kernel⟩, (rb_w2 229 rfl rfl), rb_ci6, Nat.le_of_ble_eq_true rfl, ⟨(rb_w2 227 rfl rfl), (rb_w2 228 rfl rfl)⟩⟩
theorem rb_mo_27 : rb_mo (rb_mt 27) := ⟨rb_cn5.1, ⟨rb_cn5.2.1, rb_cn5.2.2, by decide +kernel⟩, (rb_w2 233 rfl rfl), rb_ci5, Nat.le_of_ble_eq_true rfl, ⟨(rb_w2 231 rfl rfl), (rb_w2 232 rfl rfl)⟩⟩
theorem rb_mo_28 : rb_mo (rb_mt 28) := ⟨rb_cn2.1, ⟨rb_cn2.2.1, rb_cn2.2.2, by decide +kernel⟩, (rb_w2 237 rfl rfl), rb_ci2, Nat.le_of_ble_eq_true rfl, ⟨(rb_w2 235 rfl rfl), (rb_w2 236 rfl rfl)⟩⟩
theorem rb_mo_29 : rb_mo (rb_mt 29) := ⟨rb_cn8.1, ⟨rb_cn8.2.1, rb_cn8.2.2, by decide +kernel⟩, (rb_w3 1 rfl rfl), rb_ci8, Nat.le_of_ble_eq_true rfl, ⟨(rb_w2 239 rfl rfl), (rb_w3 0 rfl rfl)⟩⟩
theorem rb_mo_30 : rb_mo (rb_mt 30) := ⟨rb_cn4.1, ⟨rb_cn4.2.1, rb_cn4.2.2, by decide +kernel⟩, (rb_w3 5 rfl rfl), rb_ci4, Nat.le_of_ble_eq_true rfl, ⟨(rb_w3 3 rfl rfl), (rb_w3 4 rfl rfl)⟩⟩
theorem rb_mo_31 : rb_mo (rb_mt 31) := ⟨rb_cn4.1, ⟨rb_cn4.2.1, rb_cn4.2.2, by decide +kernel⟩, (rb_w3 11 rfl rfl), rb_ci4, Nat.le_of_ble_eq_true rfl, ⟨(rb_w3 10 rfl rfl), (rb_ws1 2 rfl)⟩⟩
theorem rb_mo_32 : rb_mo (rb_mt 32) := ⟨rb_cn4.1, ⟨rb_cn4.2.1, rb_cn4.2.2, by decide +kernel⟩, (rb_w3 16 rfl rfl), rb_ci4, Nat.le_of_ble_eq_true rfl, ⟨(rb_w3 15 rfl rfl), (rb_ws1 3 rfl)⟩⟩
theorem rb_mo_33 : rb_mo (rb_mt 33) := ⟨rb_cn4.1, ⟨rb_cn4.2.1, rb_cn4.2.2, by decide +kernel⟩, (rb_w3 20 rfl rfl), rb_ci4, Nat.le_of_ble_eq_true rfl, ⟨(rb_w3 19 rfl rfl), (rb_ws1 4 rfl)⟩⟩
theorem rb_mo_34 : rb_mo (rb_mt 34) := ⟨rb_cn4.1, ⟨rb_cn4.2.1, rb_cn4.2.2, by decide +kernel⟩, (rb_w3 24 rfl rfl), rb_ci4, Nat.le_of_ble_eq_true rfl, ⟨(rb_w3 23 rfl rfl), (rb_ws1 5 rfl)⟩⟩
theorem rb_mo_35 : rb_mo (rb_mt 35) := ⟨rb_cn4.1, ⟨rb_cn4.2.1, rb_cn4.2.2, by decide +kernel⟩, (rb_w3 28 rfl rfl), rb_ci4, Nat.le_of_ble_eq_true rfl, ⟨(rb_w3 27 rfl rfl), (rb_ws1 6 rfl)⟩⟩
theorem rb_mo_36 : rb_mo (rb_mt 36) := ⟨rb_cn4.1, ⟨rb_cn4.2.1, rb_cn4.2.2, by decide +kernel⟩, (rb_w3 33 rfl rfl), rb_ci4, Nat.le_of_ble_eq_true rfl, ⟨(rb_w3 32 rfl rfl), (rb_ws1 7 rfl)⟩⟩
theorem rb_mo_37 : rb_mo (rb_mt 37) := ⟨rb_cn4.1, ⟨rb_cn4.2.1, rb_cn4.2.2, by decide +kernel⟩, (rb_w3 37 rfl rfl), rb_ci4, Nat.le_of_ble_eq_true rfl, ⟨(rb_w3 36 rfl rfl), (rb_ws1 8 rfl)⟩⟩
theorem rb_mo_38 : rb_mo (rb_mt 38) := ⟨rb_cn4.1, ⟨rb_cn4.2.1, rb_cn4.2.2, by decide +kernel⟩, (rb_w3 41 rfl rfl), rb_ci4, Nat.le_of_ble_eq_true rfl, ⟨(rb_w3 40 rfl rfl), (rb_ws1 9 rfl)⟩⟩
theorem rb_mo_39 : rb_mo (rb_mt 39) := ⟨rb_cn4.1, ⟨rb_cn4.2.1, rb_cn4.2.2, by decide +kernel⟩, (rb_w3 44 rfl rfl), rb_ci4, Nat.le_of_ble_eq_true rfl, (rb_w3 43 rfl rfl)⟩
theorem rb_mo_40 : rb_mo (rb_mt 40) := ⟨rb_cn4.1, ⟨rb_cn4.2.1, rb_cn4.2.2, by decide +kernel⟩, (rb_w3 49 rfl rfl), rb_ci4, Nat.le_of_ble_eq_true rfl, ⟨(rb_w3 47 rfl rfl), (rb_w3 48 rfl rfl)⟩⟩
theorem rb_mo_41 : rb_mo (rb_mt 41) := ⟨rb_cn8.1, ⟨rb_cn8.2.1, rb_cn8.2.2, by decide +kernel⟩, (rb_w3 54 rfl rfl), rb_ci8, Nat.le_of_ble_eq_true rfl, ⟨(rb_w3 52 rfl rfl), (rb_w3 53 rfl rfl)⟩⟩
theorem rb_mo_42 : rb_mo (rb_mt 42) := ⟨rb_cn5.1, ⟨rb_cn5.2.1, rb_cn5.2.2, by decide +kernel⟩, (rb_w3 58 rfl rfl), rb_ci5, Nat.le_of_ble_eq_true rfl, ⟨(rb_w3 56 rfl rfl), (rb_w3 57 rfl rfl)⟩⟩
theorem rb_mo_43 : rb_mo (rb_mt 43) := ⟨rb_cn5.1, ⟨rb_cn5.2.1, rb_cn5.2.2, by decide +kernel⟩, (rb_w3 62 rfl rfl), rb_ci5, Nat.le_of_ble_eq_true rfl, ⟨(rb_w3 60 rfl rfl), (rb_w3 61 rfl rfl)⟩⟩
theorem rb_mo_44 : rb_mo (rb_mt 44) := ⟨rb_cn8.1, ⟨rb_cn8.2.1, rb_cn8.2.2, by decide +kernel⟩, (rb_w3 65 rfl rfl), rb_ci8, Nat.le_of_ble_eq_true rfl, (rb_w3 64 rfl rfl)⟩
theorem rb_mo_45 : rb_mo (rb_mt 45) := ⟨rb_cn8.1, ⟨rb_cn8.2.1, rb_cn8.2.2, by decide +kernel⟩, (rb_w3 68 rfl rfl), rb_ci8, Nat.le_of_ble_eq_true rfl, (rb_w3 67 rfl rfl)⟩
theorem rb_mo_46 : rb_mo (rb_mt 46) := ⟨rb_cn5.1, ⟨rb_cn5.2.1, rb_cn5.2.2, by decide +kernel⟩, (rb_w3 72 rfl rfl), rb_ci5, Nat.le_of_ble_eq_true rfl, ⟨(rb_w3 70 rfl rfl), (rb_w3 71 rfl rfl)⟩⟩
theorem rb_mo_47 : rb_mo (rb_mt 47) := ⟨rb_cn8.1, ⟨rb_cn8.2.1, rb_cn8.2.2, by decide +kernel⟩, (rb_w3 76 rfl rfl), rb_ci8, Nat.le_of_ble_eq_true rfl, ⟨(rb_w3 74 rfl rfl), (rb_w3 75 rfl rfl)⟩⟩
theorem rb_mo_48 : rb_mo (rb_mt 48) := ⟨rb_cn8.1, ⟨rb_cn8.2.1, rb_cn8.2.2, by decide +kernel⟩, (rb_w3 80 rfl rfl), rb_ci8, Nat.le_of_ble_eq_true rfl, ⟨(rb_w3 79 rfl rfl), (rb_ws1 10 rfl)⟩⟩
theorem rb_mo_49 : rb_mo (rb_mt 49) := ⟨rb_cn8.1, ⟨rb_cn8.2.1, rb_cn8.2.2, by decide +kernel⟩, (rb_w3 84 rfl rfl), rb_ci8, Nat.le_of_ble_eq_true rfl, (rb_w3 83 rfl rfl)⟩
theorem rb_mo_50 : rb_mo (rb_mt 50) := ⟨rb_cn5.1, ⟨rb_cn5.2.1, rb_cn5.2.2, by decide +kernel⟩, (rb_w3 88 rfl rfl), rb_ci5, Nat.le_of_ble_eq_true rfl, ⟨(rb_w3 86 rfl rfl), (rb_w3 87 rfl rfl)⟩⟩
theorem rb_mo_51 : rb_mo (rb_mt 51) := ⟨rb_cn5.1, ⟨rb_cn5.2.1, rb_cn5.2.2, by decide +kernel⟩, (rb_w3 93 rfl rfl), rb_ci5, Nat.le_of_ble_eq_true rfl, ⟨(rb_w3 91 rfl rfl), (rb_w3 92 rfl rfl)⟩⟩
theorem rb_mo_52 : rb_mo (rb_mt 52) := ⟨rb_cn5.1, ⟨rb_cn5.2.1, rb_cn5.2.2, by decide +kernel⟩, (rb_w3 97 rfl rfl), rb_ci5, Nat.le_of_ble_eq_true rfl, ⟨(rb_w3 95 rfl rfl), (rb_w3 96 rfl rfl)⟩⟩
theorem rb_mo_53 : rb_mo (rb_mt 53) := ⟨rb_cn8.1, ⟨rb_cn8.2.1, rb_cn8.2.2, by decide +kernel⟩, (rb_w3 100 rfl rfl), rb_ci8, Nat.le_of_ble_eq_true rfl, (rb_w3 99 rfl rfl)⟩
theorem rb_mo_54 : rb_mo (rb_mt 54) := ⟨rb_cn8.1, ⟨rb_cn8.2.1, rb_cn8.2.2, by decide +kernel⟩, (rb_w3 103 rfl rfl), rb_ci8, Nat.le_of_ble_eq_true rfl, (rb_w3 102 rfl rfl)⟩
theorem rb_mo_55 : rb_mo (rb_mt 55) := ⟨rb_cn8.1, ⟨rb_cn8.2.1, rb_cn8.2.2, by decide +kernel⟩, (rb_w3 106 rfl rfl), rb_ci8, Nat.le_of_ble_eq_true rfl, (rb_w3 105 rfl rfl)⟩
theorem rb_mo_56 : rb_mo (rb_mt 56) := ⟨rb_cn8.1, ⟨rb_cn8.2.1, rb_cn8.2.2, by decide +kernel⟩, (rb_w3 113 rfl rfl), rb_ci8, Nat.le_of_ble_eq_true rfl, (rb_w3 112 rfl rfl)⟩
theorem rb_mo_57 : rb_mo (rb_mt 57) := ⟨rb_cn8.1, ⟨rb_cn8.2.1, rb_cn8.2.2, by decide +kernel⟩, (rb_w3 121 rfl rfl), rb_ci8, Nat.le_of_ble_eq_true rfl, (rb_w3 120 rfl rfl)⟩
theorem rb_mo_58 : rb_mo (rb_mt 58) := ⟨rb_cn8.1, ⟨rb_cn8.2.1, rb_cn8.2.2, by decide +kernel⟩, (rb_w3 124 rfl rfl), rb_ci8, Nat.le_of_ble_eq_true rfl, (rb_w3 123 rfl rfl)⟩
theorem rb_mo_59 : rb_mo (rb_mt 59) := ⟨rb_cn8.1, ⟨rb_cn8.2.1, rb_cn8.2.2, by decide +kernel⟩, (rb_w3 127 rfl rfl), rb_ci8, Nat.le_of_ble_eq_true rfl, (rb_w3 126 rfl rfl)⟩
theorem rb_mo_60 : rb_mo (rb_mt 60) := ⟨rb_cn8.1, ⟨rb_cn8.2.1, rb_cn8.2.2, by decide +kernel⟩, (rb_w3 134 rfl rfl), rb_ci8, Nat.le_of_ble_eq_true rfl, (rb_w3 133 rfl rfl)⟩
theorem rb_mo_61 : rb_mo (rb_mt 61) := ⟨rb_cn5.1, ⟨rb_cn5.2.1, rb_cn5.2.2, by decide +kernel⟩, (rb_w3 138 rfl rfl), rb_ci5, Nat.le_of_ble_eq_true rfl, ⟨(rb_w3 136 rfl rfl), (rb_w3 137 rfl rfl)⟩⟩
theorem rb_mo_62 : rb_mo (rb_mt 62) := ⟨rb_cn5.1, ⟨rb_cn5.2.1, rb_cn5.2.2, by decide +kernel⟩, (rb_w3 144 rfl rfl), rb_ci5, Nat.le_of_ble_eq_true rfl, ⟨(rb_w3 143 rfl rfl), (rb_ws1 11 rfl)⟩⟩
theorem rb_mo_63 : rb_mo (rb_mt 63) := ⟨rb_cn2.1, ⟨rb_cn2.2.1, rb_cn2.2.2, by decide +kernel⟩, (rb_w3 148 rfl rfl), rb_ci2, Nat.le_of_ble_eq_true rfl, ⟨(rb_w3 146 rfl rfl), (rb_w3 147 rfl rfl)⟩⟩
theorem rb_mo_64 : rb_mo (rb_mt 64) := ⟨rb_cn8.1, ⟨rb_cn8.2.1, rb_cn8.2.2, by decide +kernel⟩, (rb_w3 153 rfl rfl), rb_ci8, Nat.le_of_ble_eq_true rfl, ⟨(rb_w3 152 rfl rfl), (rb_ws1 12 rfl)⟩⟩
theorem rb_mo_65 : rb_mo (rb_mt 65) := ⟨rb_cn3.1, ⟨rb_cn3.2.1, rb_cn3.2.2, by decide +kernel⟩, (rb_w3 157 rfl rfl), rb_ci3, Nat.le_of_ble_eq_true rfl, ⟨(rb_w3 155 rfl rfl), (rb_w3 156 rfl rfl)⟩⟩
theorem rb_mo_66 : rb_mo (rb_mt 66) := ⟨rb_cn8.1, ⟨rb_cn8.2.1, rb_cn8.2.2, by decide +kernel⟩, (rb_w3 161 rfl rfl), rb_ci8, Nat.le_of_ble_eq_true rfl, ⟨(rb_w3 159 rfl rfl), (rb_w3 160 rfl rfl)⟩⟩
theorem rb_mo_67 : rb_mo (rb_mt 67) := ⟨rb_cn5.1, ⟨rb_cn5.2.1, rb_cn5.2.2, by decide +kernel⟩, (rb_w3 165 rfl rfl), rb_ci5, Nat.le_of_ble_eq_true rfl, ⟨(rb_w3 163 rfl rfl), (rb_w3 164 rfl rfl)⟩⟩
theorem rb_mo_68 : rb_mo (rb_mt 68) := ⟨rb_cn5.1, ⟨rb_cn5.2.1, rb_cn5.2.2, by decide +kernel⟩, (rb_w3 169 rfl rfl), rb_ci5, Nat.le_of_ble_eq_true rfl, ⟨(rb_w3 167 rfl rfl), (rb_w3 168 rfl rfl)⟩⟩
theorem rb_mo_69 : rb_mo (rb_mt 69) := ⟨rb_cn12.1, ⟨rb_cn12.2.1, rb_cn12.2.2, by decide +kernel⟩, (rb_w3 172 rfl rfl), rb_ci12, Nat.le_of_ble_eq_true rfl, (rb_w3 171 rfl rfl)⟩
theorem rb_mo_70 : rb_mo (rb_mt 70) := ⟨rb_cn5.1, ⟨rb_cn5.2.1, rb_cn5.2.2, by decide +kernel⟩, (rb_w3 179 rfl rfl), rb_ci5, Nat.le_of_ble_eq_true rfl, ⟨(rb_w3 177 rfl rfl), (rb_w3 178 rfl rfl)⟩⟩
theorem rb_mo_71 : rb_mo (rb_mt 71) := ⟨rb_cn5.1, ⟨rb_cn5.2.1, rb_cn5.2.2, by decide +kernel⟩, (rb_w3 183 rfl rfl), rb_ci5, Nat.le_of_ble_eq_true rfl, ⟨(rb_w3 181 rfl rfl), (rb_w3 182 rfl rfl)⟩⟩
theorem rb_mo_72 : rb_mo (rb_mt 72) := ⟨rb_cn5.1, ⟨rb_cn5.2.1, rb_cn5.2.2, by decide +kernel⟩, (rb_w3 187 rfl rfl), rb_ci5, Nat.le_of_ble_eq_true rfl, ⟨(rb_w3 185 rfl rfl), (rb_w3 186 rfl rfl)⟩⟩
theorem rb_mo_73 : rb_mo (rb_mt 73) := ⟨rb_cn5.1, ⟨rb_cn5.2.1, rb_cn5.2.2, by decide +kernel⟩, (rb_w3 192 rfl rfl), rb_ci5, Nat.le_of_ble_eq_true rfl, ⟨(rb_w3 190 rfl rfl), (rb_w3 191 rfl rfl)⟩⟩
theorem rb_mo_74 : rb_mo (rb_mt 74) := ⟨rb_cn4.1, ⟨rb_cn4.2.1, rb_cn4.2.2, by decide +kernel⟩, (rb_w3 196 rfl rfl), rb_ci4, Nat.le_of_ble_eq_true rfl, ⟨(rb_w3 194 rfl rfl), (rb_w3 195 rfl rfl)⟩⟩
theorem rb_mo_75 : rb_mo (rb_mt 75) := ⟨rb_cn8.1, ⟨rb_cn8.2.1, rb_cn8.2.2, by decide +kernel⟩, (rb_w3 199 rfl rfl), rb_ci8, Nat.le_of_ble_eq_true rfl, (rb_w3 198 rfl rfl)⟩
theorem rb_mo_76 : rb_mo (rb_mt 76) := ⟨rb_cn4.1, ⟨rb_cn4.2.1, rb_cn4.2.2, by decide +kernel⟩, (rb_w3 205 rfl rfl), rb_ci4, Nat.le_of_ble_eq_true rfl, ⟨(rb_w3 204 rfl rfl), (rb_ws1 13 rfl)⟩⟩
theorem rb_mo_77 : rb_mo (rb_mt 77) := ⟨rb_cn4.1, ⟨rb_cn4.2.1, rb_cn4.2.2, by decide +kernel⟩, (rb_w3 208 rfl rfl), rb_ci4, Nat.le_of_ble_eq_true rfl, (rb_w3 207 rfl rfl)⟩
theorem rb_mo_78 : rb_mo (rb_mt 78) := ⟨rb_cn4.1, ⟨rb_cn4.2.1, rb_cn4.2.2, by decide +kernel⟩, (rb_w3 212 rfl rfl), rb_ci4, Nat.le_of_ble_eq_true rfl, ⟨(rb_w3 211 rfl rfl), (rb_ws1 14 rfl)⟩⟩
theorem rb_mo_79 : rb_mo (rb_mt 79) := ⟨rb_cn8.1, ⟨rb_cn8.2.1, rb_cn8.2.2, by decide +kernel⟩, (rb_w3 217 rfl rfl), rb_ci8, Nat.le_of_ble_eq_true rfl, ⟨(rb_w3 216 rfl rfl), (rb_ws1 15 rfl)⟩⟩
theorem rb_mo_80 : rb_mo (rb_mt 80) := ⟨rb_cn8.1, ⟨rb_cn8.2.1, rb_cn8.2.2, by decide +kernel⟩, (rb_w3 221 rfl rfl), rb_ci8, Nat.le_of_ble_eq_true rfl, ⟨(rb_w3 219 rfl rfl), (rb_w3 220 rfl rfl)⟩⟩
theorem rb_mo_81 : rb_mo (rb_mt 81) := ⟨rb_cn8.1, ⟨rb_cn8.2.1, rb_cn8.2.2, by decide +kernel⟩, (rb_w3 225 rfl rfl), rb_ci8, Nat.le_of_ble_eq_true rfl, ⟨(rb_w3 224 rfl rfl), (rb_ws2 0 rfl)⟩⟩
theorem rb_mo_82 : rb_mo (rb_mt 82) := ⟨rb_cn8.1, ⟨rb_cn8.2.1, rb_cn8.2.2, by decide +kernel⟩, (rb_w3 229 rfl rfl), rb_ci8, Nat.le_of_ble_eq_true rfl, ⟨(rb_w3 227 rfl rfl), (rb_w3 228 rfl rfl)⟩⟩
theorem rb_mo_83 : rb_mo (rb_mt 83) := ⟨rb_cn8.1, ⟨rb_cn8.2.1, rb_cn8.2.2, by decide +kernel⟩, (rb_w3 233 rfl rfl), rb_ci8, Nat.le_of_ble_eq_true rfl, ⟨(rb_w3 232 rfl rfl), (rb_ws2 1 rfl)⟩⟩
theorem rb_mo_84 : rb_mo (rb_mt 84) := ⟨rb_cn8.1, ⟨rb_cn8.2.1, rb_cn8.2.2, by decide +kernel⟩, (rb_w3 237 rfl rfl), rb_ci8, Nat.le_of_ble_eq_true rfl, ⟨(rb_w3 235 rfl rfl), (rb_w3 236 rfl rfl)⟩⟩
theorem rb_mo_85 : rb_mo (rb_mt 85) := ⟨rb_cn8.1, ⟨rb_cn8.2.1, rb_cn8.2.2, by decide +kernel⟩, (rb_w4 1 rfl rfl), rb_ci8, Nat.le_of_ble_eq_true rfl, ⟨(rb_w4 0 rfl rfl), (rb_ws2 2 rfl)⟩⟩
theorem rb_mo_86 : rb_mo (rb_mt 86) := ⟨rb_cn8.1, ⟨rb_cn8.2.1, rb_cn8.2.2, by decide +kernel⟩, (rb_w4 4 rfl rfl), rb_ci8, Nat.le_of_ble_eq_true rfl, (rb_w4 3 rfl rfl)⟩
theorem rb_mo_87 : rb_mo (rb_mt 87) := ⟨rb_cn8.1, ⟨rb_cn8.2.1, rb_cn8.2.2, by decide +kernel⟩, (rb_w4 8 rfl rfl), rb_ci8, Nat.le_of_ble_eq_true rfl, ⟨(rb_w4 6 rfl rfl), (rb_w4 7 rfl rfl)⟩⟩
theorem rb_mo_88 : rb_mo (rb_mt 88) := ⟨rb_cn8.1, ⟨rb_cn8.2.1, rb_cn8.2.2, by decide +kernel⟩, (rb_w4 12 rfl rfl), rb_ci8, Nat.le_of_ble_eq_true rfl, ⟨(rb_w4 11 rfl rfl), (rb_ws2 3 rfl)⟩⟩
theorem rb_mo_89 : rb_mo (rb_mt 89) := ⟨rb_cn8.1, ⟨rb_cn8.2.1, rb_cn8.2.2, by decide +kernel⟩, (rb_w4 16 rfl rfl), rb_ci8, Nat.le_of_ble_eq_true rfl, (rb_w4 15 rfl rfl)⟩
theorem rb_mo_90 : rb_mo (rb_mt 90) := ⟨rb_cn8.1, ⟨rb_cn8.2.1, rb_cn8.2.2, by decide +kernel⟩, (rb_w4 25 rfl rfl), rb_ci8, Nat.le_of_ble_eq_true rfl, ⟨(rb_w4 24 rfl rfl), (rb_ws2 4 rfl)⟩⟩
theorem rb_mo_91 : rb_mo (rb_mt 91) := ⟨rb_cn8.1, ⟨rb_cn8.2.1, rb_cn8.2.2, by decide +kernel⟩, (rb_w4 30 rfl rfl), rb_ci8, Nat.le_of_ble_eq_true rfl, ⟨(rb_w4 28 rfl rfl), (rb_w4 29 rfl rfl)⟩⟩
theorem rb_mo_92 : rb_mo (rb_mt 92) := ⟨rb_cn2.1, ⟨rb_cn2.2.1, rb_cn2.2.2, by decide +kernel⟩, (rb_w4 34 rfl rfl), rb_ci2, Nat.le_of_ble_eq_true rfl, ⟨(rb_w4 32 rfl rfl), (rb_w4 33 rfl rfl)⟩⟩
theorem rb_mo_93 : rb_mo (rb_mt 93) := ⟨rb_cn8.1, ⟨rb_cn8.2.1, rb_cn8.2.2, by decide +kernel⟩, (rb_w4 38 rfl rfl), rb_ci8, Nat.le_of_ble_eq_true rfl, ⟨(rb_w4 36 rfl rfl), (rb_w4 37 rfl rfl)⟩⟩
theorem rb_mo_94 : rb_mo (rb_mt 94) := ⟨rb_cn8.1, ⟨rb_cn8.2.1, rb_cn8.2.2, by decide +kernel⟩, (rb_w4 44 rfl rfl), rb_ci8, Nat.le_of_ble_eq_true rfl, ⟨(rb_w4 42 rfl rfl), (rb_w4 43 rfl rfl)⟩⟩
theorem rb_mo_95 : rb_mo (rb_mt 95) := ⟨rb_cn8.1, ⟨rb_cn8.2.1, rb_cn8.2.2, by decide +kernel⟩, (rb_w4 48 rfl rfl), rb_ci8, Nat.le_of_ble_eq_true rfl, ⟨(rb_w4 46 rfl rfl), (rb_w4 47 rfl rfl)⟩⟩
theorem rb_mo_96 : rb_mo (rb_mt 96) := ⟨rb_cn7.1, ⟨rb_cn7.2.1, rb_cn7.2.2, by decide +kernel⟩, (rb_w4 52 rfl rfl), rb_ci7, Nat.le_of_ble_eq_true rfl, ⟨(rb_w4 50 rfl rfl), (rb_w4 51 rfl rfl)⟩⟩
theorem rb_mo_97 : rb_mo (rb_mt 97) := ⟨rb_cn7.1, ⟨rb_cn7.2.1, rb_cn7.2.2, by decide +kernel⟩, (rb_w4 59 rfl rfl), rb_ci7, Nat.le_of_ble_eq_true rfl, ⟨(rb_w4 57 rfl rfl), (rb_w4 58 rfl rfl)⟩⟩
theorem rb_mo_98 : rb_mo (rb_mt 98) := ⟨rb_cn7.1, ⟨rb_cn7.2.1, rb_cn7.2.2, by decide +kernel⟩, (rb_w4 64 rfl rfl), rb_ci7, Nat.le_of_ble_eq_true rfl, ⟨(rb_w4 63 rfl rfl), (rb_ws2 5 rfl)⟩⟩
theorem rb_mo_99 : rb_mo (rb_mt 99) := ⟨rb_cn7.1, ⟨rb_cn7.2.1, rb_cn7.2.2, by decide +kernel⟩, (rb_w4 68 rfl rfl), rb_ci7, Nat.le_of_ble_eq_true rfl, ⟨(rb_w4 66 rfl rfl), (rb_w4 67 rfl rfl)⟩⟩
theorem rb_mo_100 : rb_mo (rb_mt 100) := ⟨rb_cn8.1, ⟨rb_cn8.2.1, rb_cn8.2.2, by decide +kernel⟩, (rb_w4 72 rfl rfl), rb_ci8, Nat.le_of_ble_eq_true rfl, (rb_w4 71 rfl rfl)⟩
theorem rb_mo_101 : rb_mo (rb_mt 101) := ⟨rb_cn8.1, ⟨rb_cn8.2.1, rb_cn8.2.2, by decide +kernel⟩, (rb_w4 77 rfl rfl), rb_ci8, Nat.le_of_ble_eq_true rfl, ⟨(rb_w4 75 rfl rfl), (rb_w4 76 rfl rfl)⟩⟩
theorem rb_mo_102 : rb_mo (rb_mt 102) := ⟨rb_cn7.1, ⟨rb_cn7.2.1, rb_cn7.2.2, by decide +kernel⟩, (rb_w4 81 rfl rfl), rb_ci7, Nat.le_of_ble_eq_true rfl, ⟨(rb_w4 79 rfl rfl), (rb_w4 80 rfl rfl)⟩⟩
theorem rb_mo_103 : rb_mo (rb_mt 103) := ⟨rb_cn13.1, ⟨rb_cn13.2.1, rb_cn13.2.2, by decide +kernel⟩, (rb_w4 84 rfl rfl), rb_ci13, Nat.le_of_ble_eq_true rfl, (rb_w4 83 rfl rfl)⟩
theorem rb_mo_104 : rb_mo (rb_mt 104) := ⟨rb_cn7.1, ⟨rb_cn7.2.1, rb_cn7.2.2, by decide +kernel⟩, (rb_w4 88 rfl rfl), rb_ci7, Nat.le_of_ble_eq_true rfl, ⟨(rb_w4 87 rfl rfl), (rb_ws2 6 rfl)⟩⟩
theorem rb_mo_105 : rb_mo (rb_mt 105) := ⟨rb_cn8.1, ⟨rb_cn8.2.1, rb_cn8.2.2, by decide +kernel⟩, (rb_w4 93 rfl rfl), rb_ci8, Nat.le_of_ble_eq_true rfl, ⟨(rb_w4 91 rfl rfl), (rb_w4 92 rfl rfl)⟩⟩
theorem rb_mo_106 : rb_mo (rb_mt 106) := ⟨rb_cn5.1, ⟨rb_cn5.2.1, rb_cn5.2.2, by decide +kernel⟩, (rb_w4 97 rfl rfl), rb_ci5, Nat.le_of_ble_eq_true rfl, ⟨(rb_w4 95 rfl rfl), (rb_w4 96 rfl rfl)⟩⟩
theorem rb_mo_107 : rb_mo (rb_mt 107) := ⟨rb_cn8.1, ⟨rb_cn8.2.1, rb_cn8.2.2, by decide +kernel⟩, (rb_w4 101 rfl rfl), rb_ci8, Nat.le_of_ble_eq_true rfl, ⟨(rb_w4 99 rfl rfl), (rb_w4 100 rfl rfl)⟩⟩
theorem rb_mo_108 : rb_mo (rb_mt 108) := ⟨rb_cn8.1, ⟨rb_cn8.2.1, rb_cn8.2.2, by decide +kernel⟩, (rb_w4 106 rfl rfl), rb_ci8, Nat.le_of_ble_eq_true rfl, ⟨(rb_w4 104 rfl rfl), (rb_w4 105 rfl rfl)⟩⟩
theorem rb_mo_109 : rb_mo (rb_mt 109) := ⟨rb_cn8.1, ⟨rb_cn8.2.1, rb_cn8.2.2, by decide +kernel⟩, (rb_w4 111 rfl rfl), rb_ci8, Nat.le_of_ble_eq_true rfl, ⟨(rb_w4 109 rfl rfl), (rb_w4 110 rfl rfl)⟩⟩
theorem rb_mo_110 : rb_mo (rb_mt 110) := ⟨rb_cn8.1, ⟨rb_cn8.2.1, rb_cn8.2.2, by decide +kernel⟩, (rb_w4 115 rfl rfl), rb_ci8, Nat.le_of_ble_eq_true rfl, ⟨(rb_w4 113 rfl rfl), (rb_w4 114 rfl rfl)⟩⟩
theorem rb_mo_111 : rb_mo (rb_mt 111) := ⟨rb_cn8.1, ⟨rb_cn8.2.1, rb_cn8.2.2, by decide +kernel⟩, (rb_w4 121 rfl rfl), rb_ci8, Nat.le_of_ble_eq_true rfl, ⟨(rb_w4 119 rfl rfl), (rb_w4 120 rfl rfl)⟩⟩
theorem rb_mo_112 : rb_mo (rb_mt 112) := ⟨rb_cn7.1, ⟨rb_cn7.2.1, rb_cn7.2.2, by decide +kernel⟩, (rb_w4 125 rfl rfl), rb_ci7, Nat.le_of_ble_eq_true rfl, ⟨(rb_w4 123 rfl rfl), (rb_w4 124 rfl rfl)⟩⟩
theorem rb_mo_113 : rb_mo (rb_mt 113) := ⟨rb_cn7.1, ⟨rb_cn7.2.1, rb_cn7.2.2, by decide +kernel⟩, (rb_w4 130 rfl rfl), rb_ci7, Nat.le_of_ble_eq_true rfl, ⟨(rb_w4 129 rfl rfl), (rb_ws2 7 rfl)⟩⟩
theorem rb_mo_114 : rb_mo (rb_mt 114) := ⟨rb_cn7.1, ⟨rb_cn7.2.1, rb_cn7.2.2, by decide +kernel⟩, (rb_w4 134 rfl rfl), rb_ci7, Nat.le_of_ble_eq_true rfl, ⟨(rb_w4 132 rfl rfl), (rb_w4 133 rfl rfl)⟩⟩
theorem rb_mo_115 : rb_mo (rb_mt 115) := ⟨rb_cn8.1, ⟨rb_cn8.2.1, rb_cn8.2.2, by decide +kernel⟩, (rb_w4 138 rfl rfl), rb_ci8, Nat.le_of_ble_eq_true rfl, ⟨(rb_w4 136 rfl rfl), (rb_w4 137 rfl rfl)⟩⟩
theorem rb_mo_116 : rb_mo (rb_mt 116) := ⟨rb_cn8.1, ⟨rb_cn8.2.1, rb_cn8.2.2, by decide +kernel⟩, (rb_w4 142 rfl rfl), rb_ci8, Nat.le_of_ble_eq_true rfl, ⟨(rb_w4 141 rfl rfl), (rb_ws2 8 rfl)⟩⟩
theorem rb_mo_117 : rb_mo (rb_mt 117) := ⟨rb_cn8.1, ⟨rb_cn8.2.1, rb_cn8.2.2, by decide +kernel⟩, (rb_w4 146 rfl rfl), rb_ci8, Nat.le_of_ble_eq_true rfl, ⟨(rb_w4 144 rfl rfl), (rb_w4 145 rfl rfl)⟩⟩
theorem rb_mo_118 : rb_mo (rb_mt 118) := ⟨rb_cn1.1, ⟨rb_cn1.2.1, rb_cn1.2.2, by decide +kernel⟩, (rb_w4 150 rfl rfl), rb_ci1, Nat.le_of_ble_eq_true rfl, ⟨(rb_w4 148 rfl rfl), (rb_w4 149 rfl rfl)⟩⟩
theorem rb_mo_119 : rb_mo (rb_mt 119) := ⟨rb_cn5.1, ⟨rb_cn5.2.1, rb_cn5.2.2, by decide +kernel⟩, (rb_w4 159 rfl rfl), rb_ci5, Nat.le_of_ble_eq_true rfl, ⟨(rb_w4 157 rfl rfl), (rb_w4 158 rfl rfl)⟩⟩
theorem rb_mo_120 : rb_mo (rb_mt 120) := ⟨rb_cn8.1, ⟨rb_cn8.2.1, rb_cn8.2.2, by decide +kernel⟩, (rb_w4 163 rfl rfl), rb_ci8, Nat.le_of_ble_eq_true rfl, ⟨(rb_w4 161 rfl rfl), (rb_w4 162 rfl rfl)⟩⟩
theorem rb_mo_121 : rb_mo (rb_mt 121) := ⟨rb_cn1.1, ⟨rb_cn1.2.1, rb_cn1.2.2, by decide +kernel⟩, (rb_w4 168 rfl rfl), rb_ci1, Nat.le_of_ble_eq_true rfl, ⟨(rb_w4 166 rfl rfl), (rb_w4 167 rfl rfl)⟩⟩
theorem rb_mo_122 : rb_mo (rb_mt 122) := ⟨rb_cn8.1, ⟨rb_cn8.2.1, rb_cn8.2.2, by decide +kernel⟩, (rb_w4 173 rfl rfl), rb_ci8, Nat.le_of_ble_eq_true rfl, ⟨(rb_w4 171 rfl rfl), (rb_w4 172 rfl rfl)⟩⟩
theorem rb_mo_123 : rb_mo (rb_mt 123) := ⟨rb_cn8.1, ⟨rb_cn8.2.1, rb_cn8.2.2, by decide +kernel⟩, (rb_w4 177 rfl rfl), rb_ci8, Nat.le_of_ble_eq_true rfl, ⟨(rb_w4 175 rfl rfl), (rb_w4 176 rfl rfl)⟩⟩
theorem rb_mo_124 : rb_mo (rb_mt 124) := ⟨rb_cn0.1, ⟨rb_cn0.2.1, rb_cn0.2.2, by decide +kernel⟩, (rb_w4 183 rfl rfl), rb_ci0, Nat.le_of_ble_eq_true rfl, ⟨(rb_w4 181 rfl rfl), (rb_w4 182 rfl rfl)⟩⟩
theorem rb_mo_125 : rb_mo (rb_mt 125) := ⟨rb_cn8.1, ⟨rb_cn8.2.1, rb_cn8.2.2, by decide +kernel⟩, (rb_w4 187 rfl rfl), rb_ci8, Nat.le_of_ble_eq_true rfl, ⟨(rb_w4 185 rfl rfl), (rb_w4 186 rfl rfl)⟩⟩
theorem rb_mo_126 : rb_mo (rb_mt 126) := ⟨rb_cn0.1, ⟨rb_cn0.2.1, rb_cn0.2.2, by decide +kernel⟩, (rb_w4 191 rfl rfl), rb_ci0, Nat.le_of_ble_eq_true rfl, ⟨(rb_w4 189 rfl rfl), (rb_w4 190 rfl rfl)⟩⟩
theorem rb_mo_127 : rb_mo (rb_mt 127) := ⟨rb_cn8.1, ⟨rb_cn8.2.1, rb_cn8.2.2, by decide +kernel⟩, (rb_w4 195 rfl rfl), rb_ci8, Nat.le_of_ble_eq_true rfl, ⟨(rb_w4 193 rfl rfl), (rb_w4 194 rfl rfl)⟩⟩
theorem rb_mo_128 : rb_mo (rb_mt 128) := ⟨rb_cn8.1, ⟨rb_cn8.2.1, rb_cn8.2.2, by decide +kernel⟩, (rb_w4 199 rfl rfl), rb_ci8, Nat.le_of_ble_eq_true rfl, ⟨(rb_w4 198 rfl rfl), (rb_ws2 9 rfl)⟩⟩
theorem rb_mo_129 : rb_mo (rb_mt 129) := ⟨rb_cn8.1, ⟨rb_cn8.2.1, rb_cn8.2.2, by decide +kernel⟩, (rb_w4 203 rfl rfl), rb_ci8, Nat.le_of_ble_eq_true rfl, ⟨(rb_w4 202 rfl rfl), (rb_ws2 10 rfl)⟩⟩
theorem rb_mo_130 : rb_mo (rb_mt 130) := ⟨rb_cn8.1, ⟨rb_cn8.2.1, rb_cn8.2.2, by decide +kernel⟩, (rb_w4 207 rfl rfl), rb_ci8, Nat.le_of_ble_eq_true rfl, ⟨(rb_w4 206 rfl rfl), (rb_ws2 11 rfl)⟩⟩
theorem rb_mo_131 : rb_mo (rb_mt 131) := ⟨rb_cn8.1, ⟨rb_cn8.2.1, rb_cn8.2.2, by decide +kernel⟩, (rb_w4 212 rfl rfl), rb_ci8, Nat.le_of_ble_eq_true rfl, ⟨(rb_w4 210 rfl rfl), (rb_w4 211 rfl rfl)⟩⟩
theorem rb_mo_132 : rb_mo (rb_mt 132) := ⟨rb_cn8.1, ⟨rb_cn8.2.1, rb_cn8.2.2, by decide +kernel⟩, (rb_w4 216 rfl rfl), rb_ci8, Nat.le_of_ble_eq_true rfl, ⟨(rb_w4 214 rfl rfl), (rb_w4 215 rfl rfl)⟩⟩
theorem rb_mo_133 : rb_mo (rb_mt 133) := ⟨rb_cn8.1, ⟨rb_cn8.2.1, rb_cn8.2.2, by decide +kernel⟩, (rb_w4 220 rfl rfl), rb_ci8, Nat.le_of_ble_eq_true rfl, ⟨(rb_w4 218 rfl rfl), (rb_w4 219 rfl rfl)⟩⟩
theorem rb_mo_134 : rb_mo (rb_mt 134) := ⟨rb_cn8.1, ⟨rb_cn8.2.1, rb_cn8.2.2, by decide +kernel⟩, (rb_w4 224 rfl rfl), rb_ci8, Nat.le_of_ble_eq_true rfl, ⟨(rb_w4 222 rfl rfl), (rb_w4 223 rfl rfl)⟩⟩
theorem rb_mo_135 : rb_mo (rb_mt 135) := ⟨rb_cn8.1, ⟨rb_cn8.2.1, rb_cn8.2.2, by decide +kernel⟩, (rb_w4 228 rfl rfl), rb_ci8, Nat.le_of_ble_eq_true rfl, ⟨(rb_w4 227 rfl rfl), (rb_ws2 12 rfl)⟩⟩
theorem rb_mo_136 : rb_mo (rb_mt 136) := ⟨rb_cn8.1, ⟨rb_cn8.2.1, rb_cn8.2.2, by decide +kernel⟩, (rb_w4 231 rfl rfl), rb_ci8, Nat.le_of_ble_eq_true rfl, (rb_w4 230 rfl rfl)⟩
theorem rb_mo_137 : rb_mo (rb_mt 137) := ⟨rb_cn8.1, ⟨rb_cn8.2.1, rb_cn8.2.2, by decide +kernel⟩, (rb_w4 235 rfl rfl), rb_ci8, Nat.le_of_ble_eq_true rfl, ⟨(rb_w4 233 rfl rfl), (rb_w4 234 rfl rfl)⟩⟩
theorem rb_mo_138 : rb_mo (rb_mt 138) := ⟨rb_cn8.1, ⟨rb_cn8.2.1, rb_cn8.2.2, by decide +kernel⟩, (rb_w4 239 rfl rfl), rb_ci8, Nat.le_of_ble_eq_true rfl, ⟨(rb_w4 238 rfl rfl), (rb_ws2 13 rfl)⟩⟩
theorem rb_mo_139 : rb_mo (rb_mt 139) := ⟨rb_cn8.1, ⟨rb_cn8.2.1, rb_cn8.2.2, by decide +kernel⟩, (rb_w5 3 rfl rfl), rb_ci8, Nat.le_of_ble_eq_true rfl, ⟨(rb_w5 1 rfl rfl), (rb_w5 2 rfl rfl)⟩⟩
theorem rb_mo_140 : rb_mo (rb_mt 140) := ⟨rb_cn5.1, ⟨rb_cn5.2.1, rb_cn5.2.2, by decide +kernel⟩, (rb_w5 7 rfl rfl), rb_ci5, Nat.le_of_ble_eq_true rfl, ⟨(rb_w5 5 rfl rfl), (rb_w5 6 rfl rfl)⟩⟩
theorem rb_mo_141 : rb_mo (rb_mt 141) := ⟨rb_cn8.1, ⟨rb_cn8.2.1, rb_cn8.2.2, by decide +kernel⟩, (rb_w5 10 rfl rfl), rb_ci8, Nat.le_of_ble_eq_true rfl, (rb_w5 9 rfl rfl)⟩
theorem rb_mo_142 : rb_mo (rb_mt 142) := ⟨rb_cn8.1, ⟨rb_cn8.2.1, rb_cn8.2.2, by decide +kernel⟩, (rb_w5 14 rfl rfl), rb_ci8, Nat.le_of_ble_eq_true rfl, (rb_w5 13 rfl rfl)⟩
theorem rb_mo_143 : rb_mo (rb_mt 143) := ⟨rb_cn8.1, ⟨rb_cn8.2.1, rb_cn8.2.2, by decide +kernel⟩, (rb_w5 21 rfl rfl), rb_ci8, Nat.le_of_ble_eq_true rfl, ⟨(rb_w5 19 rfl rfl), (rb_w5 20 rfl rfl)⟩⟩
theorem rb_mo_144 : rb_mo (rb_mt 144) := ⟨rb_cn8.1, ⟨rb_cn8.2.1, rb_cn8.2.2, by decide +kernel⟩, (rb_w5 25 rfl rfl), rb_ci8, Nat.le_of_ble_eq_true rfl, ⟨(rb_w5 24 rfl rfl), (rb_ws2 14 rfl)⟩⟩
theorem rb_mo_145 : rb_mo (rb_mt 145) := ⟨rb_cn8.1, ⟨rb_cn8.2.1, rb_cn8.2.2, by decide +kernel⟩, (rb_w5 33 rfl rfl), rb_ci8, Nat.le_of_ble_eq_true rfl, ⟨(rb_w5 31 rfl rfl), (rb_w5 32 rfl rfl)⟩⟩
theorem rb_mo_146 : rb_mo (rb_mt 146) := ⟨rb_cn8.1, ⟨rb_cn8.2.1, rb_cn8.2.2, by decide +kernel⟩, (rb_w5 36 rfl rfl), rb_ci8, Nat.le_of_ble_eq_true rfl, (rb_w5 35 rfl rfl)⟩
theorem rb_mo_147 : rb_mo (rb_mt 147) := ⟨rb_cn8.1, ⟨rb_cn8.2.1, rb_cn8.2.2, by decide +kernel⟩, (rb_w5 39 rfl rfl), rb_ci8, Nat.le_of_ble_eq_true rfl, (rb_w5 38 rfl rfl)⟩
theorem rb_mo_148 : rb_mo (rb_mt 148) := ⟨rb_cn8.1, ⟨rb_cn8.2.1, rb_cn8.2.2, by decide +kernel⟩, (rb_w5 43 rfl rfl), rb_ci8, Nat.le_of_ble_eq_true rfl, ⟨(rb_w5 41 rfl rfl), (rb_w5 42 rfl rfl)⟩⟩
theorem rb_mo_149 : rb_mo (rb_mt 149) := ⟨rb_cn8.1, ⟨rb_cn8.2.1, rb_cn8.2.2, by decide +kernel⟩, (rb_w5 47 rfl rfl), rb_ci8, Nat.le_of_ble_eq_true rfl, ⟨(rb_w5 45 rfl rfl), (rb_w5 46 rfl rfl)⟩⟩
theorem rb_mo_150 : rb_mo (rb_mt 150) := ⟨rb_cn8.1, ⟨rb_cn8.2.1, rb_cn8.2.2, by decide +kernel⟩, (rb_w5 50 rfl rfl), rb_ci8, Nat.le_of_ble_eq_true rfl, (rb_w5 49 rfl rfl)⟩
theorem rb_mo_151 : rb_mo (rb_mt 151) := ⟨rb_cn8.1, ⟨rb_cn8.2.1, rb_cn8.2.2, by decide +kernel⟩, (rb_w5 54 rfl rfl), rb_ci8, Nat.le_of_ble_eq_true rfl, (rb_w5 53 rfl rfl)⟩
theorem rb_mo_152 : rb_mo (rb_mt 152) := ⟨rb_cn8.1, ⟨rb_cn8.2.1, rb_cn8.2.2, by decide +kernel⟩, (rb_w5 58 rfl rfl), rb_ci8, Nat.le_of_ble_eq_true rfl, ⟨(rb_w5 56 rfl rfl), (rb_w5 57 rfl rfl)⟩⟩
theorem rb_mo_153 : rb_mo (rb_mt 153) := ⟨rb_cn8.1, ⟨rb_cn8.2.1, rb_cn8.2.2, by decide +kernel⟩, (rb_w5 62 rfl rfl), rb_ci8, Nat.le_of_ble_eq_true rfl, ⟨(rb_w5 60 rfl rfl), (rb_w5 61 rfl rfl)⟩⟩
theorem rb_mo_154 : rb_mo (rb_mt 154) := ⟨rb_cn8.1, ⟨rb_cn8.2.1, rb_cn8.2.2, by decide +kernel⟩, (rb_w5 66 rfl rfl), rb_ci8, Nat.le_of_ble_eq_true rfl, ⟨(rb_w5 64 rfl rfl), (rb_w5 65 rfl rfl)⟩⟩
theorem rb_mo_155 : rb_mo (rb_mt 155) := ⟨rb_cn8.1, ⟨rb_cn8.2.1, rb_cn8.2.2, by decide +kernel⟩, (rb_w5 74 rfl rfl), rb_ci8, Nat.le_of_ble_eq_true rfl, ⟨(rb_w5 72 rfl rfl), (rb_w5 73 rfl rfl)⟩⟩
theorem rb_mo_156 : rb_mo (rb_mt 156) := ⟨rb_cn8.1, ⟨rb_cn8.2.1, rb_cn8.2.2, by decide +kernel⟩, (rb_w5 147 rfl rfl), rb_ci8, Nat.le_of_ble_eq_true rfl, ⟨(rb_w5 145 rfl rfl), (rb_w5 146 rfl rfl)⟩⟩
theorem rb_mo_157 : rb_mo (rb_mt 157) := ⟨rb_cn8.1, ⟨rb_cn8.2.1, rb_cn8.2.2, by decide +kernel⟩, (rb_w5 155 rfl rfl), rb_ci8, Nat.le_of_ble_eq_true rfl, ⟨(rb_w5 153 rfl rfl), (rb_w5 154 rfl rfl)⟩⟩
theorem rb_mo_158 : rb_mo (rb_mt 158) := ⟨rb_cn8.1, ⟨rb_cn8.2.1, rb_cn8.2.2, by decide +kernel⟩, (rb_w5 163 rfl rfl), rb_ci8, Nat.le_of_ble_eq_true rfl, ⟨(rb_w5 161 rfl rfl), (rb_w5 162 rfl rfl)⟩⟩
theorem rb_mo_159 : rb_mo (rb_mt 159) := ⟨rb_cn9.1, ⟨rb_cn9.2.1, rb_cn9.2.2, by decide +kernel⟩, (rb_w6 74 rfl rfl), rb_ci9, Nat.le_of_ble_eq_true rfl, ⟨(rb_w6 72 rfl rfl), (rb_w6 73 rfl rfl)⟩⟩
theorem rb_mo_160 : rb_mo (rb_mt 160) := ⟨rb_cn9.1, ⟨rb_cn9.2.1, rb_cn9.2.2, by decide +kernel⟩, (rb_w6 78 rfl rfl), rb_ci9, Nat.le_of_ble_eq_true rfl, ⟨(rb_w6 76 rfl rfl), (rb_w6 77 rfl rfl)⟩⟩
theorem rb_mo_161 : rb_mo (rb_mt 161) := ⟨rb_cn9.1, ⟨rb_cn9.2.1, rb_cn9.2.2, by decide +kernel⟩, (rb_w6 82 rfl rfl), rb_ci9, Nat.le_of_ble_eq_true rfl, ⟨(rb_w6 80 rfl rfl), (rb_w6 81 rfl rfl)⟩⟩
theorem rb_mo_162 : rb_mo (rb_mt 162) := ⟨rb_cn9.1, ⟨rb_cn9.2.1, rb_cn9.2.2, by decide +kernel⟩, (rb_w6 85 rfl rfl), rb_ci9, Nat.le_of_ble_eq_true rfl, (rb_w6 84 rfl rfl)⟩
theorem rb_mo_163 : rb_mo (rb_mt 163) := ⟨rb_cn9.1, ⟨rb_cn9.2.1, rb_cn9.2.2, by decide +kernel⟩, (rb_w6 89 rfl rfl), rb_ci9, Nat.le_of_ble_eq_true rfl, ⟨(rb_w6 87 rfl rfl), (rb_w6 88 rfl rfl)⟩⟩
theorem rb_mo_164 : rb_mo (rb_mt 164) := ⟨rb_cn9.1, ⟨rb_cn9.2.1, rb_cn9.2.2, by decide +kernel⟩, (rb_w6 93 rfl rfl), rb_ci9, Nat.le_of_ble_eq_true rfl, ⟨(rb_w6 92 rfl rfl), (rb_ws3 0 rfl)⟩⟩
theorem rb_mo_165 : rb_mo (rb_mt 165) := ⟨rb_cn9.1, ⟨rb_cn9.2.1, rb_cn9.2.2, by decide +kernel⟩, (rb_w6 97 rfl rfl), rb_ci9, Nat.le_of_ble_eq_true rfl, ⟨(rb_w6 96 rfl rfl), (rb_ws3 1 rfl)⟩⟩
theorem rb_mo_166 : rb_mo (rb_mt 166) := ⟨rb_cn9.1, ⟨rb_cn9.2.1, rb_cn9.2.2, by decide +kernel⟩, (rb_w6 101 rfl rfl), rb_ci9, Nat.le_of_ble_eq_true rfl, ⟨(rb_w6 100 rfl rfl), (rb_ws3 2 rfl)⟩⟩
theorem rb_mo_167 : rb_mo (rb_mt 167) := ⟨rb_cn9.1, ⟨rb_cn9.2.1, rb_cn9.2.2, by decide +kernel⟩, (rb_w6 105 rfl rfl), rb_ci9, Nat.le_of_ble_eq_true rfl, ⟨(rb_w6 104 rfl rfl), (rb_ws3 3 rfl)⟩⟩
theorem rb_mo_168 : rb_mo (rb_mt 168) := ⟨rb_cn9.1, ⟨rb_cn9.2.1, rb_cn9.2.2, by decide +kernel⟩, (rb_w6 109 rfl rfl), rb_ci9, Nat.le_of_ble_eq_true rfl, ⟨(rb_w6 108 rfl rfl), (rb_ws3 4 rfl)⟩⟩
theorem rb_mo_169 : rb_mo (rb_mt 169) := ⟨rb_cn9.1, ⟨rb_cn9.2.1, rb_cn9.2.2, by decide +kernel⟩, (rb_w6 113 rfl rfl), rb_ci9, Nat.le_of_ble_eq_true rfl, ⟨(rb_w6 112 rfl rfl), (rb_ws3 5 rfl)⟩⟩
theorem rb_mo_170 : rb_mo (rb_mt 170) := ⟨rb_cn9.1, ⟨rb_cn9.2.1, rb_cn9.2.2, by decide +kernel⟩, (rb_w6 116 rfl rfl), rb_ci9, Nat.le_of_ble_eq_true rfl, (rb_w6 115 rfl rfl)⟩
theorem rb_mo_171 : rb_mo (rb_mt 171) := ⟨rb_cn9.1, ⟨rb_cn9.2.1, rb_cn9.2.2, by decide +kernel⟩, (rb_w6 120 rfl rfl), rb_ci9, Nat.le_of_ble_eq_true rfl, ⟨(rb_w6 119 rfl rfl), (rb_ws3 6 rfl)⟩⟩
theorem rb_mo_172 : rb_mo (rb_mt 172) := ⟨rb_cn9.1, ⟨rb_cn9.2.1, rb_cn9.2.2, by decide +kernel⟩, (rb_w6 124 rfl rfl), rb_ci9, Nat.le_of_ble_eq_true rfl, ⟨(rb_w6 123 rfl rfl), (rb_ws3 7 rfl)⟩⟩
theorem rb_mo_173 : rb_mo (rb_mt 173) := ⟨rb_cn9.1, ⟨rb_cn9.2.1, rb_cn9.2.2, by decide +kernel⟩, (rb_w6 128 rfl rfl), rb_ci9, Nat.le_of_ble_eq_true rfl, ⟨(rb_w6 127 rfl rfl), (rb_ws3 8 rfl)⟩⟩
theorem rb_mo_174 : rb_mo (rb_mt 174) := ⟨rb_cn9.1, ⟨rb_cn9.2.1, rb_cn9.2.2, by decide +kernel⟩, (rb_w6 132 rfl rfl), rb_ci9, Nat.le_of_ble_eq_true rfl, ⟨(rb_w6 131 rfl rfl), (rb_ws3 9 rfl)⟩⟩
theorem rb_mo_175 : rb_mo (rb_mt 175) := ⟨rb_cn9.1, ⟨rb_cn9.2.1, rb_cn9.2.2, by decide +kernel⟩, (rb_w6 136 rfl rfl), rb_ci9, Nat.le_of_ble_eq_true rfl, ⟨(rb_w6 135 rfl rfl), (rb_ws3 10 rfl)⟩⟩
theorem rb_mo_176 : rb_mo (rb_mt 176) := ⟨rb_cn9.1, ⟨rb_cn9.2.1, rb_cn9.2.2, by decide +kernel⟩, (rb_w6 140 rfl rfl), rb_ci9, Nat.le_of_ble_eq_true rfl, ⟨(rb_w6 138 rfl rfl), (rb_w6 139 rfl rfl)⟩⟩
theorem rb_mo_177 : rb_mo (rb_mt 177) := ⟨rb_cn9.1, ⟨rb_cn9.2.1, rb_cn9.2.2, by decide +kernel⟩, (rb_w6 144 rfl rfl), rb_ci9, Nat.le_of_ble_eq_true rfl, ⟨(rb_w6 143 rfl rfl), (rb_ws3 11 rfl)⟩⟩
theorem rb_mo_178 : rb_mo (rb_mt 178) := ⟨rb_cn9.1, ⟨rb_cn9.2.1, rb_cn9.2.2, by decide +kernel⟩, (rb_w6 148 rfl rfl), rb_ci9, Nat.le_of_ble_eq_true rfl, ⟨(rb_w6 147 rfl rfl), (rb_ws3 12 rfl)⟩⟩
theorem rb_mo_179 : rb_mo (rb_mt 179) := ⟨rb_cn9.1, ⟨rb_cn9.2.1, rb_cn9.2.2, by decide +kernel⟩, (rb_w6 152 rfl rfl), rb_ci9, Nat.le_of_ble_eq_true rfl, ⟨(rb_w6 151 rfl rfl), (rb_ws3 13 rfl)⟩⟩
theorem rb_mo_180 : rb_mo (rb_mt 180) := ⟨rb_cn9.1, ⟨rb_cn9.2.1, rb_cn9.2.2, by decide +kernel⟩, (rb_w6 156 rfl rfl), rb_ci9, Nat.le_of_ble_eq_true rfl, ⟨(rb_w6 155 rfl rfl), (rb_ws3 14 rfl)⟩⟩
theorem rb_mo_181 : rb_mo (rb_mt 181) := ⟨rb_cn9.1, ⟨rb_cn9.2.1, rb_cn9.2.2, by decide +kernel⟩, (rb_w6 160 rfl rfl), rb_ci9, Nat.le_of_ble_eq_true rfl, ⟨(rb_w6 159 rfl rfl), (rb_ws3 15 rfl)⟩⟩
theorem rb_mo_182 : rb_mo (rb_mt 182) := ⟨rb_cn9.1, ⟨rb_cn9.2.1, rb_cn9.2.2, by decide +kernel⟩, (rb_w6 164 rfl rfl), rb_ci9, Nat.le_of_ble_eq_true rfl, ⟨(rb_w6 163 rfl rfl), (rb_ws4 0 rfl)⟩⟩
theorem rb_mo_183 : rb_mo (rb_mt 183) := ⟨rb_cn9.1, ⟨rb_cn9.2.1, rb_cn9.2.2, by decide +kernel⟩, (rb_w6 168 rfl rfl), rb_ci9, Nat.le_of_ble_eq_true rfl, ⟨(rb_w6 167 rfl rfl), (rb_ws4 1 rfl)⟩⟩
theorem rb_mo_184 : rb_mo (rb_mt 184) := ⟨rb_cn9.1, ⟨rb_cn9.2.1, rb_cn9.2.2, by decide +kernel⟩, (rb_w6 171 rfl rfl), rb_ci9, Nat.le_of_ble_eq_true rfl, (rb_w6 170 rfl rfl)⟩
theorem rb_mo_185 : rb_mo (rb_mt 185) := ⟨rb_cn9.1, ⟨rb_cn9.2.1, rb_cn9.2.2, by decide +kernel⟩, (rb_w6 175 rfl rfl), rb_ci9, Nat.le_of_ble_eq_true rfl, ⟨(rb_w6 173 rfl rfl), (rb_w6 174 rfl rfl)⟩⟩
theorem rb_mo_186 : rb_mo (rb_mt 186) := ⟨rb_cn9.1, ⟨rb_cn9.2.1, rb_cn9.2.2, by decide +kernel⟩, (rb_w6 179 rfl rfl), rb_ci9, Nat.le_of_ble_eq_true rfl, ⟨(rb_w6 178 rfl rfl), (rb_ws4 2 rfl)⟩⟩
theorem rb_mo_187 : rb_mo (rb_mt 187) := ⟨rb_cn9.1, ⟨rb_cn9.2.1, rb_cn9.2.2, by decide +kernel⟩, (rb_w6 183 rfl rfl), rb_ci9, Nat.le_of_ble_eq_true rfl, ⟨(rb_w6 182 rfl rfl), (rb_ws4 3 rfl)⟩⟩
theorem rb_mo_188 : rb_mo (rb_mt 188) := ⟨rb_cn9.1, ⟨rb_cn9.2.1, rb_cn9.2.2, by decide +kernel⟩, (rb_w6 186 rfl rfl), rb_ci9, Nat.le_of_ble_eq_true rfl, (rb_w6 185 rfl rfl)⟩
theorem rb_mo_189 : rb_mo (rb_mt 189) := ⟨rb_cn9.1, ⟨rb_cn9.2.1, rb_cn9.2.2, by decide +kernel⟩, (rb_w6 190 rfl rfl), rb_ci9, Nat.le_of_ble_eq_true rfl, ⟨(rb_w6 189 rfl rfl), (rb_ws4 4 rfl)⟩⟩
theorem rb_mo_190 : rb_mo (rb_mt 190) := ⟨rb_cn9.1, ⟨rb_cn9.2.1, rb_cn9.2.2, by decide +kernel⟩, (rb_w6 193 rfl rfl), rb_ci9, Nat.le_of_ble_eq_true rfl, (rb_w6 192 rfl rfl)⟩
theorem rb_mo_191 : rb_mo (rb_mt 191) := ⟨rb_cn9.1, ⟨rb_cn9.2.1, rb_cn9.2.2, by decide +kernel⟩, (rb_w6 200 rfl rfl), rb_ci9, Nat.le_of_ble_eq_true rfl, (rb_w6 199 rfl rfl)⟩
theorem rb_mo_192 : rb_mo (rb_mt 192) := ⟨rb_cn9.1, ⟨rb_cn9.2.1, rb_cn9.2.2, by decide +kernel⟩, (rb_w6 205 rfl rfl), rb_ci9, Nat.le_of_ble_eq_true rfl, ⟨(rb_w6 203 rfl rfl), (rb_w6 204 rfl rfl)⟩⟩
theorem rb_mo_193 : rb_mo (rb_mt 193) := ⟨rb_cn9.1, ⟨rb_cn9.2.1, rb_cn9.2.2, by decide +kernel⟩, (rb_w6 208 rfl rfl), rb_ci9, Nat.le_of_ble_eq_true rfl, (rb_w6 207 rfl rfl)⟩
theorem rb_mo_194 : rb_mo (rb_mt 194) := ⟨rb_cn9.1, ⟨rb_cn9.2.1, rb_cn9.2.2, by decide +kernel⟩, (rb_w6 212 rfl rfl), rb_ci9, Nat.le_of_ble_eq_true rfl, ⟨(rb_w6 210 rfl rfl), (rb_w6 211 rfl rfl)⟩⟩
theorem rb_mo_195 : rb_mo (rb_mt 195) := ⟨rb_cn9.1, ⟨rb_cn9.2.1, rb_cn9.2.2, by decide +kernel⟩, (rb_w6 216 rfl rfl), rb_ci9, Nat.le_of_ble_eq_true rfl, ⟨(rb_w6 214 rfl rfl), (rb_w6 215 rfl rfl)⟩⟩
theorem rb_mo_196 : rb_mo (rb_mt 196) := ⟨rb_cn9.1, ⟨rb_cn9.2.1, rb_cn9.2.2, by decide +kernel⟩, (rb_w6 220 rfl rfl), rb_ci9, Nat.le_of_ble_eq_true rfl, ⟨(rb_w6 219 rfl rfl), (rb_ws4 5 rfl)⟩⟩
theorem rb_mo_197 : rb_mo (rb_mt 197) := ⟨rb_cn9.1, ⟨rb_cn9.2.1, rb_cn9.2.2, by decide +kernel⟩, (rb_w6 224 rfl rfl), rb_ci9, Nat.le_of_ble_eq_true rfl, ⟨(rb_w6 222 rfl rfl), (rb_w6 223 rfl rfl)⟩⟩
theorem rb_mo_198 : rb_mo (rb_mt 198) := ⟨rb_cn9.1, ⟨rb_cn9.2.1, rb_cn9.2.2, by decide +kernel⟩, (rb_w6 228 rfl rfl), rb_ci9, Nat.le_of_ble_eq_true rfl, ⟨(rb_w6 227 rfl rfl), (rb_ws4 6 rfl)⟩⟩
theorem rb_mo_199 : rb_mo (rb_mt 199) := ⟨rb_cn9.1, ⟨rb_cn9.2.1, rb_cn9.2.2, by decide +kernel⟩, (rb_w6 232 rfl rfl), rb_ci9, Nat.le_of_ble_eq_true rfl, ⟨(rb_w6 231 rfl rfl), (rb_ws4 7 rfl)⟩⟩
theorem rb_mo_200 : rb_mo (rb_mt 200) := ⟨rb_cn9.1, ⟨rb_cn9.2.1, rb_cn9.2.2, by decide +kernel⟩, (rb_w6 236 rfl rfl), rb_ci9, Nat.le_of_ble_eq_true rfl, ⟨(rb_w6 235 rfl rfl), (rb_ws4 8 rfl)⟩⟩
theorem rb_mo_201 : rb_mo (rb_mt 201) := ⟨rb_cn9.1, ⟨rb_cn9.2.1, rb_cn9.2.2, by decide +kernel⟩, (rb_w7 0 rfl rfl), rb_ci9, Nat.le_of_ble_eq_true rfl, ⟨(rb_w6 239 rfl rfl), (rb_ws4 9 rfl)⟩⟩
theorem rb_mo_202 : rb_mo (rb_mt 202) := ⟨rb_cn12.1, ⟨rb_cn12.2.1, rb_cn12.2.2, by decide +kernel⟩, (rb_w7 3 rfl rfl), rb_ci12, Nat.le_of_ble_eq_true rfl, (rb_w7 2 rfl rfl)⟩
theorem rb_mo_203 : rb_mo (rb_mt 203) := ⟨rb_cn9.1, ⟨rb_cn9.2.1, rb_cn9.2.2, by decide +kernel⟩, (rb_w7 7 rfl rfl), rb_ci9, Nat.le_of_ble_eq_true rfl, ⟨(rb_w7 6 rfl rfl), (rb_ws4 10 rfl)⟩⟩
theorem rb_mo_204 : rb_mo (rb_mt 204) := ⟨rb_cn9.1, ⟨rb_cn9.2.1, rb_cn9.2.2, by decide +kernel⟩, (rb_w7 10 rfl rfl), rb_ci9, Nat.le_of_ble_eq_true rfl, (rb_w7 9 rfl rfl)⟩
theorem rb_mo_205 : rb_mo (rb_mt 205) := ⟨rb_cn9.1, ⟨rb_cn9.2.1, rb_cn9.2.2, by decide +kernel⟩, (rb_w7 14 rfl rfl), rb_ci9, Nat.le_of_ble_eq_true rfl, ⟨(rb_w7 13 rfl rfl), (rb_ws4 11 rfl)⟩⟩
theorem rb_mo_206 : rb_mo (rb_mt 206) := ⟨rb_cn9.1, ⟨rb_cn9.2.1, rb_cn9.2.2, by decide +kernel⟩, (rb_w7 18 rfl rfl), rb_ci9, Nat.le_of_ble_eq_true rfl, ⟨(rb_w7 17 rfl rfl), (rb_ws4 12 rfl)⟩⟩
theorem rb_mo_207 : rb_mo (rb_mt 207) := ⟨rb_cn9.1, ⟨rb_cn9.2.1, rb_cn9.2.2, by decide +kernel⟩, (rb_w7 22 rfl rfl), rb_ci9, Nat.le_of_ble_eq_true rfl, ⟨(rb_w7 20 rfl rfl), (rb_w7 21 rfl rfl)⟩⟩
theorem rb_mo_208 : rb_mo (rb_mt 208) := ⟨rb_cn9.1, ⟨rb_cn9.2.1, rb_cn9.2.2, by decide +kernel⟩, (rb_w7 26 rfl rfl), rb_ci9, Nat.le_of_ble_eq_true rfl, ⟨(rb_w7 25 rfl rfl), (rb_ws4 13 rfl)⟩⟩
theorem rb_mo_209 : rb_mo (rb_mt 209) := ⟨rb_cn9.1, ⟨rb_cn9.2.1, rb_cn9.2.2, by decide +kernel⟩, (rb_w7 30 rfl rfl), rb_ci9, Nat.le_of_ble_eq_true rfl, ⟨(rb_w7 29 rfl rfl), (rb_ws4 14 rfl)⟩⟩
theorem rb_mo_210 : rb_mo (rb_mt 210) := ⟨rb_cn9.1, ⟨rb_cn9.2.1, rb_cn9.2.2, by decide +kernel⟩, (rb_w7 35 rfl rfl), rb_ci9, Nat.le_of_ble_eq_true rfl, ⟨(rb_w7 33 rfl rfl), (rb_w7 34 rfl rfl)⟩⟩
theorem rb_mo_211 : rb_mo (rb_mt 211) := ⟨rb_cn9.1, ⟨rb_cn9.2.1, rb_cn9.2.2, by decide +kernel⟩, (rb_w7 39 rfl rfl), rb_ci9, Nat.le_of_ble_eq_true rfl, ⟨(rb_w7 37 rfl rfl), (rb_w7 38 rfl rfl)⟩⟩
theorem rb_mo_212 : rb_mo (rb_mt 212) := ⟨rb_cn9.1, ⟨rb_cn9.2.1, rb_cn9.2.2, by decide +kernel⟩, (rb_w7 43 rfl rfl), rb_ci9, Nat.le_of_ble_eq_true rfl, ⟨(rb_w7 42 rfl rfl), (rb_ws4 15 rfl)⟩⟩
theorem rb_mo_213 : rb_mo (rb_mt 213) := ⟨rb_cn9.1, ⟨rb_cn9.2.1, rb_cn9.2.2, by decide +kernel⟩, (rb_w7 47 rfl rfl), rb_ci9, Nat.le_of_ble_eq_true rfl, ⟨(rb_w7 46 rfl rfl), (rb_ws5 0 rfl)⟩⟩
theorem rb_mo_214 : rb_mo (rb_mt 214) := ⟨rb_cn9.1, ⟨rb_cn9.2.1, rb_cn9.2.2, by decide +kernel⟩, (rb_w7 51 rfl rfl), rb_ci9, Nat.le_of_ble_eq_true rfl, ⟨(rb_w7 49 rfl rfl), (rb_w7 50 rfl rfl)⟩⟩
theorem rb_mo_215 : rb_mo (rb_mt 215) := ⟨rb_cn9.1, ⟨rb_cn9.2.1, rb_cn9.2.2, by decide +kernel⟩, (rb_w7 54 rfl rfl), rb_ci9, Nat.le_of_ble_eq_true rfl, (rb_w7 53 rfl rfl)⟩
theorem rb_mo_216 : rb_mo (rb_mt 216) := ⟨rb_cn9.1, ⟨rb_cn9.2.1, rb_cn9.2.2, by decide +kernel⟩, (rb_w7 58 rfl rfl), rb_ci9, Nat.le_of_ble_eq_true rfl, ⟨(rb_w7 57 rfl rfl), (rb_ws5 1 rfl)⟩⟩
theorem rb_mo_217 : rb_mo (rb_mt 217) := ⟨rb_cn9.1, ⟨rb_cn9.2.1, rb_cn9.2.2, by decide +kernel⟩, (rb_w7 62 rfl rfl), rb_ci9, Nat.le_of_ble_eq_true rfl, ⟨(rb_w7 60 rfl rfl), (rb_w7 61 rfl rfl)⟩⟩
theorem rb_mo_218 : rb_mo (rb_mt 218) := ⟨rb_cn9.1, ⟨rb_cn9.2.1, rb_cn9.2.2, by decide +kernel⟩, (rb_w7 66 rfl rfl), rb_ci9, Nat.le_of_ble_eq_true rfl, ⟨(rb_w7 65 rfl rfl), (rb_ws5 2 rfl)⟩⟩
theorem rb_mo_219 : rb_mo (rb_mt 219) := ⟨rb_cn9.1, ⟨rb_cn9.2.1, rb_cn9.2.2, by decide +kernel⟩, (rb_w7 70 rfl rfl), rb_ci9, Nat.le_of_ble_eq_true rfl, ⟨(rb_w7 69 rfl rfl), (rb_ws5 3 rfl)⟩⟩
theorem rb_mo_220 : rb_mo (rb_mt 220) := ⟨rb_cn9.1, ⟨rb_cn9.2.1, rb_cn9.2.2, by decide +kernel⟩, (rb_w7 74 rfl rfl), rb_ci9, Nat.le_of_ble_eq_true rfl, ⟨(rb_w7 73 rfl rfl), (rb_ws5 4 rfl)⟩⟩
theorem rb_mo_221 : rb_mo (rb_mt 221) := ⟨rb_cn9.1, ⟨rb_cn9.2.1, rb_cn9.2.2, by decide +kernel⟩, (rb_w7 78 rfl rfl), rb_ci9, Nat.le_of_ble_eq_true rfl, ⟨(rb_w7 76 rfl rfl), (rb_w7 77 rfl rfl)⟩⟩
theorem rb_mo_222 : rb_mo (rb_mt 222) := ⟨rb_cn9.1, ⟨rb_cn9.2.1, rb_cn9.2.2, by decide +kernel⟩, (rb_w7 82 rfl rfl), rb_ci9, Nat.le_of_ble_eq_true rfl, ⟨(rb_w7 80 rfl rfl), (rb_w7 81 rfl rfl)⟩⟩
theorem rb_mo_223 : rb_mo (rb_mt 223) := ⟨rb_cn9.1, ⟨rb_cn9.2.1, rb_cn9.2.2, by decide +kernel⟩, (rb_w7 86 rfl rfl), rb_ci9, Nat.le_of_ble_eq_true rfl, ⟨(rb_w7 85 rfl rfl), (rb_ws5 5 rfl)⟩⟩
theorem rb_mo_224 : rb_mo (rb_mt 224) := ⟨rb_cn9.1, ⟨rb_cn9.2.1, rb_cn9.2.2, by decide +kernel⟩, (rb_w7 89 rfl rfl), rb_ci9, Nat.le_of_ble_eq_true rfl, (rb_w7 88 rfl rfl)⟩
theorem rb_mo_225 : rb_mo (rb_mt 225) := ⟨rb_cn9.1, ⟨rb_cn9.2.1, rb_cn9.2.2, by decide +kernel⟩, (rb_w7 93 rfl rfl), rb_ci9, Nat.le_of_ble_eq_true rfl, ⟨(rb_w7 91 rfl rfl), (rb_w7 92 rfl rfl)⟩⟩
theorem rb_mo_226 : rb_mo (rb_mt 226) := ⟨rb_cn9.1, ⟨rb_cn9.2.1, rb_cn9.2.2, by decide +kernel⟩, (rb_w7 97 rfl rfl), rb_ci9, Nat.le_of_ble_eq_true rfl, ⟨(rb_w7 95 rfl rfl), (rb_w7 96 rfl rfl)⟩⟩
theorem rb_mo_227 : rb_mo (rb_mt 227) := ⟨rb_cn9.1, ⟨rb_cn9.2.1, rb_cn9.2.2, by decide +kernel⟩, (rb_w7 102 rfl rfl), rb_ci9, Nat.le_of_ble_eq_true rfl, ⟨(rb_w7 101 rfl rfl), (rb_ws5 6 rfl)⟩⟩
theorem rb_mo_228 : rb_mo (rb_mt 228) := ⟨rb_cn9.1, ⟨rb_cn9.2.1, rb_cn9.2.2, by decide +kernel⟩, (rb_w7 106 rfl rfl), rb_ci9, Nat.le_of_ble_eq_true rfl, ⟨(rb_w7 104 rfl rfl), (rb_w7 105 rfl rfl)⟩⟩
theorem rb_mo_229 : rb_mo (rb_mt 229) := ⟨rb_cn9.1, ⟨rb_cn9.2.1, rb_cn9.2.2, by decide +kernel⟩, (rb_w7 110 rfl rfl), rb_ci9, Nat.le_of_ble_eq_true rfl, ⟨(rb_w7 108 rfl rfl), (rb_w7 109 rfl rfl)⟩⟩
theorem rb_mo_230 : rb_mo (rb_mt 230) := ⟨rb_cn9.1, ⟨rb_cn9.2.1, rb_cn9.2.2, by decide +kernel⟩, (rb_w7 114 rfl rfl), rb_ci9, Nat.le_of_ble_eq_true rfl, ⟨(rb_w7 112 rfl rfl), (rb_w7 113 rfl rfl)⟩⟩
theorem rb_mo_231 : rb_mo (rb_mt 231) := ⟨rb_cn9.1, ⟨rb_cn9.2.1, rb_cn9.2.2, by decide +kernel⟩, (rb_w7 118 rfl rfl), rb_ci9, Nat.le_of_ble_eq_true rfl, ⟨(rb_w7 117 rfl rfl), (rb_ws5 7 rfl)⟩⟩
theorem rb_mo_232 : rb_mo (rb_mt 232) := ⟨rb_cn9.1, ⟨rb_cn9.2.1, rb_cn9.2.2, by decide +kernel⟩, (rb_w7 122 rfl rfl), rb_ci9, Nat.le_of_ble_eq_true rfl, ⟨(rb_w7 120 rfl rfl), (rb_w7 121 rfl rfl)⟩⟩
theorem rb_mo_233 : rb_mo (rb_mt 233) := ⟨rb_cn9.1, ⟨rb_cn9.2.1, rb_cn9.2.2, by decide +kernel⟩, (rb_w7 126 rfl rfl), rb_ci9, Nat.le_of_ble_eq_true rfl, ⟨(rb_w7 124 rfl rfl), (rb_w7 125 rfl rfl)⟩⟩
theorem rb_mo_234 : rb_mo (rb_mt 234) := ⟨rb_cn9.1, ⟨rb_cn9.2.1, rb_cn9.2.2, by decide +kernel⟩, (rb_w7 130 rfl rfl), rb_ci9, Nat.le_of_ble_eq_true rfl, ⟨(rb_w7 128 rfl rfl), (rb_w7 129 rfl rfl)⟩⟩
theorem rb_mo_235 : rb_mo (rb_mt 235) := ⟨rb_cn9.1, ⟨rb_cn9.2.1, rb_cn9.2.2, by decide +kernel⟩, (rb_w7 134 rfl rfl), rb_ci9, Nat.le_of_ble_eq_true rfl, ⟨(rb_w7 132 rfl rfl), (rb_w7 133 rfl rfl)⟩⟩
theorem rb_mo_236 : rb_mo (rb_mt 236) := ⟨rb_cn9.1, ⟨rb_cn9.2.1, rb_cn9.2.2, by decide +kernel⟩, (rb_w7 138 rfl rfl), rb_ci9, Nat.le_of_ble_eq_true rfl, ⟨(rb_w7 137 rfl rfl), (rb_ws5 8 rfl)⟩⟩
theorem rb_mo_237 : rb_mo (rb_mt 237) := ⟨rb_cn9.1, ⟨rb_cn9.2.1, rb_cn9.2.2, by decide +kernel⟩, (rb_w7 142 rfl rfl), rb_ci9, Nat.le_of_ble_eq_true rfl, ⟨(rb_w7 141 rfl rfl), (rb_ws5 9 rfl)⟩⟩
theorem rb_mo_238 : rb_mo (rb_mt 238) := ⟨rb_cn9.1, ⟨rb_cn9.2.1, rb_cn9.2.2, by decide +kernel⟩, (rb_w7 146 rfl rfl), rb_ci9, Nat.le_of_ble_eq_true rfl, ⟨(rb_w7 144 rfl rfl), (rb_w7 145 rfl rfl)⟩⟩
theorem rb_mo_239 : rb_mo (rb_mt 239) := ⟨rb_cn9.1, ⟨rb_cn9.2.1, rb_cn9.2.2, by decide +kernel⟩, (rb_w7 150 rfl rfl), rb_ci9, Nat.le_of_ble_eq_true rfl, ⟨(rb_w7 148 rfl rfl), (rb_w7 149 rfl rfl)⟩⟩
theorem rb_mo_240 : rb_mo (rb_mt 240) := ⟨rb_cn9.1, ⟨rb_cn9.2.1, rb_cn9.2.2, by decide +kernel⟩, (rb_w7 154 rfl rfl), rb_ci9, Nat.le_of_ble_eq_true rfl, ⟨(rb_w7 153 rfl rfl), (rb_ws5 10 rfl)⟩⟩
theorem rb_mo_241 : rb_mo (rb_mt 241) := ⟨rb_cn9.1, ⟨rb_cn9.2.1, rb_cn9.2.2, by decide +kernel⟩, (rb_w7 158 rfl rfl), rb_ci9, Nat.le_of_ble_eq_true rfl, ⟨(rb_w7 157 rfl rfl), (rb_ws5 11 rfl)⟩⟩
theorem rb_mo_242 : rb_mo (rb_mt 242) := ⟨rb_cn9.1, ⟨rb_cn9.2.1, rb_cn9.2.2, by decide +kernel⟩, (rb_w7 162 rfl rfl), rb_ci9, Nat.le_of_ble_eq_true rfl, ⟨(rb_w7 161 rfl rfl), (rb_ws5 12 rfl)⟩⟩
theorem rb_mo_243 : rb_mo (rb_mt 243) := ⟨rb_cn9.1, ⟨rb_cn9.2.1, rb_cn9.2.2, by decide +kernel⟩, (rb_w7 166 rfl rfl), rb_ci9, Nat.le_of_ble_eq_true rfl, ⟨(rb_w7 164 rfl rfl), (rb_w7 165 rfl rfl)⟩⟩
theorem rb_mo_244 : rb_mo (rb_mt 244) := ⟨rb_cn9.1, ⟨rb_cn9.2.1, rb_cn9.2.2, by decide +kernel⟩, (rb_w7 170 rfl rfl), rb_ci9, Nat.le_of_ble_eq_true rfl, ⟨(rb_w7 168 rfl rfl), (rb_w7 169 rfl rfl)⟩⟩
theorem rb_mo_245 : rb_mo (rb_mt 245) := ⟨rb_cn9.1, ⟨rb_cn9.2.1, rb_cn9.2.2, by decide +kernel⟩, (rb_w7 174 rfl rfl), rb_ci9, Nat.le_of_ble_eq_true rfl, ⟨(rb_w7 172 rfl rfl), (rb_w7 173 rfl rfl)⟩⟩
theorem rb_mo_246 : rb_mo (rb_mt 246) := ⟨rb_cn9.1, ⟨rb_cn9.2.1, rb_cn9.2.2, by decide +kernel⟩, (rb_w7 177 rfl rfl), rb_ci9, Nat.le_of_ble_eq_true rfl, (rb_w7 176 rfl rfl)⟩
theorem rb_mo_247 : rb_mo (rb_mt 247) := ⟨rb_cn9.1, ⟨rb_cn9.2.1, rb_cn9.2.2, by decide +kernel⟩, (rb_w7 181 rfl rfl), rb_ci9, Nat.le_of_ble_eq_true rfl, ⟨(rb_w7 179 rfl rfl), (rb_w7 180 rfl rfl)⟩⟩
theorem rb_mo_248 : rb_mo (rb_mt 248) := ⟨rb_cn9.1, ⟨rb_cn9.2.1, rb_cn9.2.2, by decide +kernel⟩, (rb_w7 185 rfl rfl), rb_ci9, Nat.le_of_ble_eq_true rfl, ⟨(rb_w7 183 rfl rfl), (rb_w7 184 rfl rfl)⟩⟩
theorem rb_mo_249 : rb_mo (rb_mt 249) := ⟨rb_cn9.1, ⟨rb_cn9.2.1, rb_cn9.2.2, by decide +kernel⟩, (rb_w7 189 rfl rfl), rb_ci9, Nat.le_of_ble_eq_true rfl, ⟨(rb_w7 188 rfl rfl), (rb_ws5 13 rfl)⟩⟩
theorem rb_mo_250 : rb_mo (rb_mt 250) := ⟨rb_cn9.1, ⟨rb_cn9.2.1, rb_cn9.2.2, by decide +kernel⟩, (rb_w7 193 rfl rfl), rb_ci9, Nat.le_of_ble_eq_true rfl, ⟨(rb_w7 192 rfl rfl), (rb_ws5 14 rfl)⟩⟩
theorem rb_mo_251 : rb_mo (rb_mt 251) := ⟨rb_cn9.1, ⟨rb_cn9.2.1, rb_cn9.2.2, by decide +kernel⟩, (rb_w7 197 rfl rfl), rb_ci9, Nat.le_of_ble_eq_true rfl, ⟨(rb_w7 195 rfl rfl), (rb_w7 196 rfl rfl)⟩⟩
theorem rb_mo_252 : rb_mo (rb_mt 252) := ⟨rb_cn9.1, ⟨rb_cn9.2.1, rb_cn9.2.2, by decide +kernel⟩, (rb_w7 201 rfl rfl), rb_ci9, Nat.le_of_ble_eq_true rfl, ⟨(rb_w7 199 rfl rfl), (rb_w7 200 rfl rfl)⟩⟩
theorem rb_mo_253 : rb_mo (rb_mt 253) := ⟨rb_cn9.1, ⟨rb_cn9.2.1, rb_cn9.2.2, by decide +kernel⟩, (rb_w7 205 rfl rfl), rb_ci9, Nat.le_of_ble_eq_true rfl, ⟨(rb_w7 203 rfl rfl), (rb_w7 204 rfl rfl)⟩⟩
theorem rb_mo_254 : rb_mo (rb_mt 254) := ⟨rb_cn9.1, ⟨rb_cn9.2.1, rb_cn9.2.2, by decide +kernel⟩, (rb_w7 209 rfl rfl), rb_ci9, Nat.le_of_ble_eq_true rfl, ⟨(rb_w7 207 rfl rfl), (rb_w7 208 rfl rfl)⟩⟩
theorem rb_mo_255 : rb_mo (rb_mt 255) := ⟨rb_cn9.1, ⟨rb_cn9.2.1, rb_cn9.2.2, by decide +kernel⟩, (rb_w7 213 rfl rfl), rb_ci9, Nat.le_of_ble_eq_true rfl, ⟨(rb_w7 212 rfl rfl), (rb_ws5 15 rfl)⟩⟩
theorem rb_mo_256 : rb_mo (rb_mt 256) := ⟨rb_cn9.1, ⟨rb_cn9.2.1, rb_cn9.2.2, by decide +kernel⟩, (rb_w7 216 rfl rfl), rb_ci9, Nat.le_of_ble_eq_true rfl, (rb_w7 215 rfl rfl)⟩
theorem rb_mo_257 : rb_mo (rb_mt 257) := ⟨rb_cn9.1, ⟨rb_cn9.2.1, rb_cn9.2.2, by decide +kernel⟩, (rb_w7 220 rfl rfl), rb_ci9, Nat.le_of_ble_eq_true rfl, ⟨(rb_w7 218 rfl rfl), (rb_w7 219 rfl rfl)⟩⟩
theorem rb_mo_258 : rb_mo (rb_mt 258) := ⟨rb_cn9.1, ⟨rb_cn9.2.1, rb_cn9.2.2, by decide +kernel⟩, (rb_w7 224 rfl rfl), rb_ci9, Nat.le_of_ble_eq_true rfl, ⟨(rb_w7 222 rfl rfl), (rb_w7 223 rfl rfl)⟩⟩
theorem rb_mo_259 : rb_mo (rb_mt 259) := ⟨rb_cn9.1, ⟨rb_cn9.2.1, rb_cn9.2.2, by decide +kernel⟩, (rb_w7 228 rfl rfl), rb_ci9, Nat.le_of_ble_eq_true rfl, (rb_w7 227 rfl rfl)⟩
theorem rb_mo_260 : rb_mo (rb_mt 260) := ⟨rb_cn9.1, ⟨rb_cn9.2.1, rb_cn9.2.2, by decide +kernel⟩, (rb_w7 232 rfl rfl), rb_ci9, Nat.le_of_ble_eq_true rfl, ⟨(rb_w7 230 rfl rfl), (rb_w7 231 rfl rfl)⟩⟩
theorem rb_mo_261 : rb_mo (rb_mt 261) := ⟨rb_cn9.1, ⟨rb_cn9.2.1, rb_cn9.2.2, by decide +kernel⟩, (rb_w7 236 rfl rfl), rb_ci9, Nat.le_of_ble_eq_true rfl, ⟨(rb_w7 235 rfl rfl), (rb_ws6 0 rfl)⟩⟩
theorem rb_mo_262 : rb_mo (rb_mt 262) := ⟨rb_cn9.1, ⟨rb_cn9.2.1, rb_cn9.2.2, by decide +kernel⟩, (rb_w8 0 rfl rfl), rb_ci9, Nat.le_of_ble_eq_true rfl, ⟨(rb_w7 239 rfl rfl), (rb_ws6 1 rfl)⟩⟩
theorem rb_mo_263 : rb_mo (rb_mt 263) := ⟨rb_cn9.1, ⟨rb_cn9.2.1, rb_cn9.2.2, by decide +kernel⟩, (rb_w8 4 rfl rfl), rb_ci9, Nat.le_of_ble_eq_true rfl, ⟨(rb_w8 2 rfl rfl), (rb_w8 3 rfl rfl)⟩⟩
theorem rb_mo_264 : rb_mo (rb_mt 264) := ⟨rb_cn9.1, ⟨rb_cn9.2.1, rb_cn9.2.2, by decide +kernel⟩, (rb_w8 7 rfl rfl), rb_ci9, Nat.le_of_ble_eq_true rfl, (rb_w8 6 rfl rfl)⟩
theorem rb_mo_265 : rb_mo (rb_mt 265) := ⟨rb_cn9.1, ⟨rb_cn9.2.1, rb_cn9.2.2, by decide +kernel⟩, (rb_w8 10 rfl rfl), rb_ci9, Nat.le_of_ble_eq_true rfl, (rb_w8 9 rfl rfl)⟩
theorem rb_mo_266 : rb_mo (rb_mt 266) := ⟨rb_cn9.1, ⟨rb_cn9.2.1, rb_cn9.2.2, by decide +kernel⟩, (rb_w8 14 rfl rfl), rb_ci9, Nat.le_of_ble_eq_true rfl, ⟨(rb_w8 12 rfl rfl), (rb_w8 13 rfl rfl)⟩⟩
theorem rb_mo_267 : rb_mo (rb_mt 267) := ⟨rb_cn9.1, ⟨rb_cn9.2.1, rb_cn9.2.2, by decide +kernel⟩, (rb_w8 18 rfl rfl), rb_ci9, Nat.le_of_ble_eq_true rfl, ⟨(rb_w8 17 rfl rfl), (rb_ws6 2 rfl)⟩⟩
theorem rb_mo_268 : rb_mo (rb_mt 268) := ⟨rb_cn9.1, ⟨rb_cn9.2.1, rb_cn9.2.2, by decide +kernel⟩, (rb_w8 22 rfl rfl), rb_ci9, Nat.le_of_ble_eq_true rfl, ⟨(rb_w8 20 rfl rfl), (rb_w8 21 rfl rfl)⟩⟩
theorem rb_mo_269 : rb_mo (rb_mt 269) := ⟨rb_cn9.1, ⟨rb_cn9.2.1, rb_cn9.2.2, by decide +kernel⟩, (rb_w8 26 rfl rfl), rb_ci9, Nat.le_of_ble_eq_true rfl, ⟨(rb_w8 25 rfl rfl), (rb_ws6 3 rfl)⟩⟩
theorem rb_mo_270 : rb_mo (rb_mt 270) := ⟨rb_cn9.1, ⟨rb_cn9.2.1, rb_cn9.2.2, by decide +kernel⟩, (rb_w8 31 rfl rfl), rb_ci9, Nat.le_of_ble_eq_true rfl, ⟨(rb_w8 29 rfl rfl), (rb_w8 30 rfl rfl)⟩⟩
theorem rb_mo_271 : rb_mo (rb_mt 271) := ⟨rb_cn9.1, ⟨rb_cn9.2.1, rb_cn9.2.2, by decide +kernel⟩, (rb_w8 35 rfl rfl), rb_ci9, Nat.le_of_ble_eq_true rfl, ⟨(rb_w8 33 rfl rfl), (rb_w8 34 rfl rfl)⟩⟩
theorem rb_mo_272 : rb_mo (rb_mt 272) := ⟨rb_cn9.1, ⟨rb_cn9.2.1, rb_cn9.2.2, by decide +kernel⟩, (rb_w8 39 rfl rfl), rb_ci9, Nat.le_of_ble_eq_true rfl, ⟨(rb_w8 37 rfl rfl), (rb_w8 38 rfl rfl)⟩⟩
theorem rb_mo_273 : rb_mo (rb_mt 273) := ⟨rb_cn9.1, ⟨rb_cn9.2.1, rb_cn9.2.2, by decide +kernel⟩, (rb_w8 43 rfl rfl), rb_ci9, Nat.le_of_ble_eq_true rfl, ⟨(rb_w8 41 rfl rfl), (rb_w8 42 rfl rfl)⟩⟩
theorem rb_f0_18 : Cond.fieldLink "RentBoard$Facts" 18 ((rb_cq 0).2.1 0).1 ((rb_cq 0).2.1 0).2.1 ((rb_cq 0).2.1 0).2.2.1 ∈ rb_tbl := (rb_w1 189 rfl rfl)
theorem rb_f0_9 : Cond.fieldLink "RentBoard$Facts" 9 ((rb_cq 0).2.1 1).1 ((rb_cq 0).2.1 1).2.1 ((rb_cq 0).2.1 1).2.2.1 ∈ rb_tbl := (rb_w1 190 rfl rfl)
theorem rb_f0_15 : Cond.fieldLink "RentBoard$Facts" 15 ((rb_cq 0).2.1 2).1 ((rb_cq 0).2.1 2).2.1 ((rb_cq 0).2.1 2).2.2.1 ∈ rb_tbl := (rb_w1 192 rfl rfl)
theorem rb_f0_22 : Cond.fieldLink "RentBoard$Facts" 22 ((rb_cq 0).2.1 3).1 ((rb_cq 0).2.1 3).2.1 ((rb_cq 0).2.1 3).2.2.1 ∈ rb_tbl := (rb_w1 194 rfl rfl)
theorem rb_f1_25 : Cond.fieldLink "RentBoard$Lookahead" 25 ((rb_cq 5).2.1 5).1 ((rb_cq 5).2.1 5).2.1 ((rb_cq 5).2.1 5).2.2.1 ∈ rb_tbl := (rb_w1 133 rfl rfl)
theorem rb_f1_48 : Cond.fieldLink "RentBoard$Lookahead" 48 ((rb_cq 5).2.1 6).1 ((rb_cq 5).2.1 6).2.1 ((rb_cq 5).2.1 6).2.2.1 ∈ rb_tbl := (rb_w1 137 rfl rfl)
theorem rb_f1_12 : Cond.fieldLink "RentBoard$Lookahead" 12 ((rb_cq 1).2.1 0).1 ((rb_cq 1).2.1 0).2.1 ((rb_cq 1).2.1 0).2.2.1 ∈ rb_tbl := (rb_w2 6 rfl rfl)
theorem rb_f1_18 : Cond.fieldLink "RentBoard$Lookahead" 18 ((rb_cq 1).2.1 1).1 ((rb_cq 1).2.1 1).2.1 ((rb_cq 1).2.1 1).2.2.1 ∈ rb_tbl := (rb_w2 7 rfl rfl)
theorem rb_f1_55 : Cond.fieldLink "RentBoard$Lookahead" 55 ((rb_cq 1).2.1 2).1 ((rb_cq 1).2.1 2).2.1 ((rb_cq 1).2.1 2).2.2.1 ∈ rb_tbl := (rb_w2 8 rfl rfl)
theorem rb_f1_21 : Cond.fieldLink "RentBoard$Lookahead" 21 ((rb_cq 1).2.1 3).1 ((rb_cq 1).2.1 3).2.1 ((rb_cq 1).2.1 3).2.2.1 ∈ rb_tbl := (rb_w2 10 rfl rfl)
theorem rb_f2_11 : Cond.fieldLink "RentBoard$Past" 11 ((rb_cq 2).2.1 0).1 ((rb_cq 2).2.1 0).2.1 ((rb_cq 2).2.1 0).2.2.1 ∈ rb_tbl := (rb_w1 172 rfl rfl)
theorem rb_f2_18 : Cond.fieldLink "RentBoard$Past" 18 ((rb_cq 2).2.1 1).1 ((rb_cq 2).2.1 1).2.1 ((rb_cq 2).2.1 1).2.2.1 ∈ rb_tbl := (rb_w1 173 rfl rfl)
theorem rb_f2_22 : Cond.fieldLink "RentBoard$Past" 22 ((rb_cq 2).2.1 2).1 ((rb_cq 2).2.1 2).2.1 ((rb_cq 2).2.1 2).2.2.1 ∈ rb_tbl := (rb_w1 174 rfl rfl)
theorem rb_f3_9 : Cond.fieldLink "RentBoard$Row" 9 ((rb_cq 3).2.1 0).1 ((rb_cq 3).2.1 0).2.1 ((rb_cq 3).2.1 0).2.2.1 ∈ rb_tbl := (rb_w1 54 rfl rfl)
theorem rb_f3_15 : Cond.fieldLink "RentBoard$Row" 15 ((rb_cq 3).2.1 1).1 ((rb_cq 3).2.1 1).2.1 ((rb_cq 3).2.1 1).2.2.1 ∈ rb_tbl := (rb_w1 56 rfl rfl)
theorem rb_f4_59 : Cond.fieldLink "RentBoard$Rule" 59 ((rb_cq 6).2.1 1).1 ((rb_cq 6).2.1 1).2.1 ((rb_cq 6).2.1 1).2.2.1 ∈ rb_tbl := (rb_w1 41 rfl rfl)
theorem rb_f4_9 : Cond.fieldLink "RentBoard$Rule" 9 ((rb_cq 4).2.1 0).1 ((rb_cq 4).2.1 0).2.1 ((rb_cq 4).2.1 0).2.2.1 ∈ rb_tbl := (rb_w1 81 rfl rfl)
theorem rb_f4_15 : Cond.fieldLink "RentBoard$Rule" 15 ((rb_cq 4).2.1 1).1 ((rb_cq 4).2.1 1).2.1 ((rb_cq 4).2.1 1).2.2.1 ∈ rb_tbl := (rb_w1 82 rfl rfl)
theorem rb_f4_18 : Cond.fieldLink "RentBoard$Rule" 18 ((rb_cq 4).2.1 2).1 ((rb_cq 4).2.1 2).2.1 ((rb_cq 4).2.1 2).2.2.1 ∈ rb_tbl := (rb_w1 83 rfl rfl)
theorem rb_f4_21 : Cond.fieldLink "RentBoard$Rule" 21 ((rb_cq 4).2.1 3).1 ((rb_cq 4).2.1 3).2.1 ((rb_cq 4).2.1 3).2.2.1 ∈ rb_tbl := (rb_w1 84 rfl rfl)
theorem rb_f4_33 : Cond.fieldLink "RentBoard$Rule" 33 ((rb_cq 4).2.1 4).1 ((rb_cq 4).2.1 4).2.1 ((rb_cq 4).2.1 4).2.2.1 ∈ rb_tbl := (rb_w1 85 rfl rfl)
theorem rb_f4_42 : Cond.fieldLink "RentBoard$Rule" 42 ((rb_cq 4).2.1 5).1 ((rb_cq 4).2.1 5).2.1 ((rb_cq 4).2.1 5).2.2.1 ∈ rb_tbl := (rb_w1 86 rfl rfl)
theorem rb_f4_46 : Cond.fieldLink "RentBoard$Rule" 46 ((rb_cq 4).2.1 6).1 ((rb_cq 4).2.1 6).2.1 ((rb_cq 4).2.1 6).2.2.1 ∈ rb_tbl := (rb_w1 87 rfl rfl)
theorem rb_f4_49 : Cond.fieldLink "RentBoard$Rule" 49 ((rb_cq 4).2.1 7).1 ((rb_cq 4).2.1 7).2.1 ((rb_cq 4).2.1 7).2.2.1 ∈ rb_tbl := (rb_w1 88 rfl rfl)
theorem rb_f4_52 : Cond.fieldLink "RentBoard$Rule" 52 ((rb_cq 4).2.1 8).1 ((rb_cq 4).2.1 8).2.1 ((rb_cq 4).2.1 8).2.2.1 ∈ rb_tbl := (rb_w1 89 rfl rfl)
theorem rb_f4_55 : Cond.fieldLink "RentBoard$Rule" 55 ((rb_cq 4).2.1 9).1 ((rb_cq 4).2.1 9).2.1 ((rb_cq 4).2.1 9).2.2.1 ∈ rb_tbl := (rb_w1 90 rfl rfl)
theorem rb_f5_9 : Cond.fieldLink "RentBoard$State" 9 ((rb_cq 5).2.1 0).1 ((rb_cq 5).2.1 0).2.1 ((rb_cq 5).2.1 0).2.2.1 ∈ rb_tbl := (rb_w1 121 rfl rfl)
theorem rb_f5_15 : Cond.fieldLink "RentBoard$State" 15 ((rb_cq 5).2.1 1).1 ((rb_cq 5).2.1 1).2.1 ((rb_cq 5).2.1 1).2.2.1 ∈ rb_tbl := (rb_w1 124 rfl rfl)
theorem rb_f5_18 : Cond.fieldLink "RentBoard$State" 18 ((rb_cq 5).2.1 2).1 ((rb_cq 5).2.1 2).2.1 ((rb_cq 5).2.1 2).2.2.1 ∈ rb_tbl := (rb_w1 127 rfl rfl)
theorem rb_f5_21 : Cond.fieldLink "RentBoard$State" 21 ((rb_cq 5).2.1 3).1 ((rb_cq 5).2.1 3).2.1 ((rb_cq 5).2.1 3).2.2.1 ∈ rb_tbl := (rb_w1 130 rfl rfl)
theorem rb_f5_24 : Cond.fieldLink "RentBoard$State" 24 ((rb_cq 5).2.1 4).1 ((rb_cq 5).2.1 4).2.1 ((rb_cq 5).2.1 4).2.2.1 ∈ rb_tbl := (rb_w1 132 rfl rfl)
theorem rb_f5_33 : Cond.fieldLink "RentBoard$State" 33 ((rb_cq 5).2.1 5).1 ((rb_cq 5).2.1 5).2.1 ((rb_cq 5).2.1 5).2.2.1 ∈ rb_tbl := (rb_w1 134 rfl rfl)
theorem rb_f5_37 : Cond.fieldLink "RentBoard$State" 37 ((rb_cq 5).2.1 6).1 ((rb_cq 5).2.1 6).2.1 ((rb_cq 5).2.1 6).2.2.1 ∈ rb_tbl := (rb_w1 136 rfl rfl)
theorem rb_f5_40 : Cond.fieldLink "RentBoard$State" 40 ((rb_cq 5).2.1 7).1 ((rb_cq 5).2.1 7).2.1 ((rb_cq 5).2.1 7).2.2.1 ∈ rb_tbl := (rb_w1 139 rfl rfl)
theorem rb_f5_43 : Cond.fieldLink "RentBoard$State" 43 ((rb_cq 5).2.1 8).1 ((rb_cq 5).2.1 8).2.1 ((rb_cq 5).2.1 8).2.2.1 ∈ rb_tbl := (rb_w1 142 rfl rfl)
theorem rb_f6_9 : Cond.fieldLink "RentBoard$Text" 9 ((rb_cq 6).2.1 0).1 ((rb_cq 6).2.1 0).2.1 ((rb_cq 6).2.1 0).2.2.1 ∈ rb_tbl := (rb_w1 38 rfl rfl)
theorem rb_f6_15 : Cond.fieldLink "RentBoard$Text" 15 ((rb_cq 6).2.1 1).1 ((rb_cq 6).2.1 1).2.1 ((rb_cq 6).2.1 1).2.2.1 ∈ rb_tbl := (rb_w1 39 rfl rfl)
theorem rb_f7_52 : Cond.fieldLink "RentBoard$Walk" 52 ((rb_cq 5).2.1 0).1 ((rb_cq 5).2.1 0).2.1 ((rb_cq 5).2.1 0).2.2.1 ∈ rb_tbl := (rb_w1 122 rfl rfl)
theorem rb_f7_32 : Cond.fieldLink "RentBoard$Walk" 32 ((rb_cq 5).2.1 1).1 ((rb_cq 5).2.1 1).2.1 ((rb_cq 5).2.1 1).2.2.1 ∈ rb_tbl := (rb_w1 125 rfl rfl)
theorem rb_f7_41 : Cond.fieldLink "RentBoard$Walk" 41 ((rb_cq 5).2.1 2).1 ((rb_cq 5).2.1 2).2.1 ((rb_cq 5).2.1 2).2.2.1 ∈ rb_tbl := (rb_w1 128 rfl rfl)
theorem rb_f7_96 : Cond.fieldLink "RentBoard$Walk" 96 ((rb_cq 5).2.1 7).1 ((rb_cq 5).2.1 7).2.1 ((rb_cq 5).2.1 7).2.2.1 ∈ rb_tbl := (rb_w1 140 rfl rfl)
theorem rb_f7_9 : Cond.fieldLink "RentBoard$Walk" 9 ((rb_cq 7).2.1 0).1 ((rb_cq 7).2.1 0).2.1 ((rb_cq 7).2.1 0).2.2.1 ∈ rb_tbl := (rb_w1 213 rfl rfl)
theorem rb_f7_15 : Cond.fieldLink "RentBoard$Walk" 15 ((rb_cq 7).2.1 1).1 ((rb_cq 7).2.1 1).2.1 ((rb_cq 7).2.1 1).2.2.1 ∈ rb_tbl := (rb_w1 214 rfl rfl)
theorem rb_f7_18 : Cond.fieldLink "RentBoard$Walk" 18 ((rb_cq 7).2.1 2).1 ((rb_cq 7).2.1 2).2.1 ((rb_cq 7).2.1 2).2.2.1 ∈ rb_tbl := (rb_w1 215 rfl rfl)
theorem rb_f7_21 : Cond.fieldLink "RentBoard$Walk" 21 ((rb_cq 7).2.1 3).1 ((rb_cq 7).2.1 3).2.1 ((rb_cq 7).2.1 3).2.2.1 ∈ rb_tbl := (rb_w1 216 rfl rfl)
theorem rb_f7_26 : Cond.fieldLink "RentBoard$Walk" 26 ((rb_cq 7).2.1 4).1 ((rb_cq 7).2.1 4).2.1 ((rb_cq 7).2.1 4).2.2.1 ∈ rb_tbl := (rb_w1 217 rfl rfl)
theorem rb_f7_29 : Cond.fieldLink "RentBoard$Walk" 29 ((rb_cq 7).2.1 5).1 ((rb_cq 7).2.1 5).2.1 ((rb_cq 7).2.1 5).2.2.1 ∈ rb_tbl := (rb_w1 218 rfl rfl)
theorem rb_f7_44 : Cond.fieldLink "RentBoard$Walk" 44 ((rb_cq 7).2.1 6).1 ((rb_cq 7).2.1 6).2.1 ((rb_cq 7).2.1 6).2.2.1 ∈ rb_tbl := (rb_w1 219 rfl rfl)
theorem rb_f7_49 : Cond.fieldLink "RentBoard$Walk" 49 ((rb_cq 7).2.1 7).1 ((rb_cq 7).2.1 7).2.1 ((rb_cq 7).2.1 7).2.2.1 ∈ rb_tbl := (rb_w1 220 rfl rfl)
theorem rb_f8_94 : Cond.fieldLink "RentBoard" 94 ((rb_cq 6).2.1 1).1 ((rb_cq 6).2.1 1).2.1 ((rb_cq 6).2.1 1).2.2.1 ∈ rb_tbl := (rb_w1 40 rfl rfl)
theorem rb_f8_441 : Cond.fieldLink "RentBoard" 441 ((rb_cq 3).2.1 0).1 ((rb_cq 3).2.1 0).2.1 ((rb_cq 3).2.1 0).2.2.1 ∈ rb_tbl := (rb_w1 55 rfl rfl)
theorem rb_f8_313 : Cond.fieldLink "RentBoard" 313 ((rb_cq 3).2.1 1).1 ((rb_cq 3).2.1 1).2.1 ((rb_cq 3).2.1 1).2.2.1 ∈ rb_tbl := (rb_w1 57 rfl rfl)
theorem rb_f8_176 : Cond.fieldLink "RentBoard" 176 ((rb_cq 5).2.1 0).1 ((rb_cq 5).2.1 0).2.1 ((rb_cq 5).2.1 0).2.2.1 ∈ rb_tbl := (rb_w1 123 rfl rfl)
theorem rb_f8_180 : Cond.fieldLink "RentBoard" 180 ((rb_cq 5).2.1 1).1 ((rb_cq 5).2.1 1).2.1 ((rb_cq 5).2.1 1).2.2.1 ∈ rb_tbl := (rb_w1 126 rfl rfl)
theorem rb_f8_183 : Cond.fieldLink "RentBoard" 183 ((rb_cq 5).2.1 2).1 ((rb_cq 5).2.1 2).2.1 ((rb_cq 5).2.1 2).2.2.1 ∈ rb_tbl := (rb_w1 129 rfl rfl)
theorem rb_f8_186 : Cond.fieldLink "RentBoard" 186 ((rb_cq 5).2.1 3).1 ((rb_cq 5).2.1 3).2.1 ((rb_cq 5).2.1 3).2.2.1 ∈ rb_tbl := (rb_w1 131 rfl rfl)
theorem rb_f8_109 : Cond.fieldLink "RentBoard" 109 ((rb_cq 5).2.1 5).1 ((rb_cq 5).2.1 5).2.1 ((rb_cq 5).2.1 5).2.2.1 ∈ rb_tbl := (rb_w1 135 rfl rfl)
theorem rb_f8_255 : Cond.fieldLink "RentBoard" 255 ((rb_cq 5).2.1 6).1 ((rb_cq 5).2.1 6).2.1 ((rb_cq 5).2.1 6).2.2.1 ∈ rb_tbl := (rb_w1 138 rfl rfl)
theorem rb_f8_205 : Cond.fieldLink "RentBoard" 205 ((rb_cq 5).2.1 7).1 ((rb_cq 5).2.1 7).2.1 ((rb_cq 5).2.1 7).2.2.1 ∈ rb_tbl := (rb_w1 141 rfl rfl)
theorem rb_f8_435 : Cond.fieldLink "RentBoard" 435 ((rb_cq 5).2.1 8).1 ((rb_cq 5).2.1 8).2.1 ((rb_cq 5).2.1 8).2.2.1 ∈ rb_tbl := (rb_w1 143 rfl rfl)
theorem rb_f8_297 : Cond.fieldLink "RentBoard" 297 ((rb_cq 2).2.1 2).1 ((rb_cq 2).2.1 2).2.1 ((rb_cq 2).2.1 2).2.2.1 ∈ rb_tbl := (rb_w1 175 rfl rfl)
theorem rb_f8_371 : Cond.fieldLink "RentBoard" 371 ((rb_cq 0).2.1 1).1 ((rb_cq 0).2.1 1).2.1 ((rb_cq 0).2.1 1).2.2.1 ∈ rb_tbl := (rb_w1 191 rfl rfl)
theorem rb_f8_374 : Cond.fieldLink "RentBoard" 374 ((rb_cq 0).2.1 2).1 ((rb_cq 0).2.1 2).2.1 ((rb_cq 0).2.1 2).2.2.1 ∈ rb_tbl := (rb_w1 193 rfl rfl)
theorem rb_f8_370 : Cond.fieldLink "RentBoard" 370 ((rb_cq 0).2.1 3).1 ((rb_cq 0).2.1 3).2.1 ((rb_cq 0).2.1 3).2.2.1 ∈ rb_tbl := (rb_w1 195 rfl rfl)
theorem rb_f8_351 : Cond.fieldLink "RentBoard" 351 ((rb_cq 1).2.1 2).1 ((rb_cq 1).2.1 2).2.1 ((rb_cq 1).2.1 2).2.2.1 ∈ rb_tbl := (rb_w2 9 rfl rfl)
theorem rb_f8_345 : Cond.fieldLink "RentBoard" 345 ((rb_cq 1).2.1 3).1 ((rb_cq 1).2.1 3).2.1 ((rb_cq 1).2.1 3).2.2.1 ∈ rb_tbl := (rb_w2 11 rfl rfl)
theorem rb_f8_12 : Cond.fieldLink "RentBoard" 12 ((rb_cq 8).2.1 0).1 ((rb_cq 8).2.1 0).2.1 ((rb_cq 8).2.1 0).2.2.1 ∈ rb_tbl := (rb_w2 21 rfl rfl)
theorem rb_f8_19 : Cond.fieldLink "RentBoard" 19 ((rb_cq 8).2.1 1).1 ((rb_cq 8).2.1 1).2.1 ((rb_cq 8).2.1 1).2.2.1 ∈ rb_tbl := (rb_w2 22 rfl rfl)
theorem rb_f8_26 : Cond.fieldLink "RentBoard" 26 ((rb_cq 8).2.1 2).1 ((rb_cq 8).2.1 2).2.1 ((rb_cq 8).2.1 2).2.2.1 ∈ rb_tbl := (rb_w2 23 rfl rfl)
theorem rb_f8_30 : Cond.fieldLink "RentBoard" 30 ((rb_cq 8).2.1 3).1 ((rb_cq 8).2.1 3).2.1 ((rb_cq 8).2.1 3).2.2.1 ∈ rb_tbl := (rb_w2 24 rfl rfl)
theorem rb_f8_36 : Cond.fieldLink "RentBoard" 36 ((rb_cq 8).2.1 4).1 ((rb_cq 8).2.1 4).2.1 ((rb_cq 8).2.1 4).2.2.1 ∈ rb_tbl := (rb_w2 25 rfl rfl)
theorem rb_f8_40 : Cond.fieldLink "RentBoard" 40 ((rb_cq 8).2.1 5).1 ((rb_cq 8).2.1 5).2.1 ((rb_cq 8).2.1 5).2.2.1 ∈ rb_tbl := (rb_w2 26 rfl rfl)
theorem rb_f8_43 : Cond.fieldLink "RentBoard" 43 ((rb_cq 8).2.1 6).1 ((rb_cq 8).2.1 6).2.1 ((rb_cq 8).2.1 6).2.2.1 ∈ rb_tbl := (rb_w2 27 rfl rfl)
theorem rb_f8_49 : Cond.fieldLink "RentBoard" 49 ((rb_cq 8).2.1 7).1 ((rb_cq 8).2.1 7).2.1 ((rb_cq 8).2.1 7).2.2.1 ∈ rb_tbl := (rb_w2 28 rfl rfl)
theorem rb_f8_53 : Cond.fieldLink "RentBoard" 53 ((rb_cq 8).2.1 8).1 ((rb_cq 8).2.1 8).2.1 ((rb_cq 8).2.1 8).2.2.1 ∈ rb_tbl := (rb_w2 29 rfl rfl)
theorem rb_f8_57 : Cond.fieldLink "RentBoard" 57 ((rb_cq 8).2.1 9).1 ((rb_cq 8).2.1 9).2.1 ((rb_cq 8).2.1 9).2.2.1 ∈ rb_tbl := (rb_w2 30 rfl rfl)
theorem rb_f8_66 : Cond.fieldLink "RentBoard" 66 ((rb_cq 8).2.1 10).1 ((rb_cq 8).2.1 10).2.1 ((rb_cq 8).2.1 10).2.2.1 ∈ rb_tbl := (rb_w2 31 rfl rfl)
theorem rb_f8_70 : Cond.fieldLink "RentBoard" 70 ((rb_cq 8).2.1 11).1 ((rb_cq 8).2.1 11).2.1 ((rb_cq 8).2.1 11).2.2.1 ∈ rb_tbl := (rb_w2 32 rfl rfl)
theorem rb_f8_76 : Cond.fieldLink "RentBoard" 76 ((rb_cq 8).2.1 12).1 ((rb_cq 8).2.1 12).2.1 ((rb_cq 8).2.1 12).2.2.1 ∈ rb_tbl := (rb_w2 33 rfl rfl)
theorem rb_f8_83 : Cond.fieldLink "RentBoard" 83 ((rb_cq 8).2.1 13).1 ((rb_cq 8).2.1 13).2.1 ((rb_cq 8).2.1 13).2.2.1 ∈ rb_tbl := (rb_w2 34 rfl rfl)
theorem rb_f8_87 : Cond.fieldLink "RentBoard" 87 ((rb_cq 8).2.1 14).1 ((rb_cq 8).2.1 14).2.1 ((rb_cq 8).2.1 14).2.2.1 ∈ rb_tbl := (rb_w2 35 rfl rfl)
theorem rb_g8_467 : Cond.fieldLink "RentBoard" 467 "RentBoard" (rb_sn 1) "[I" ∈ rb_tbl := (rb_w3 115 rfl rfl)
theorem rb_g8_470 : Cond.fieldLink "RentBoard" 470 "RentBoard" (rb_sn 2) "[I" ∈ rb_tbl := (rb_w3 117 rfl rfl)
theorem rb_g8_458 : Cond.fieldLink "RentBoard" 458 "RentBoard" (rb_sn 3) "[I" ∈ rb_tbl := (rb_w3 128 rfl rfl)
theorem rb_g8_461 : Cond.fieldLink "RentBoard" 461 "RentBoard" (rb_sn 4) "[I" ∈ rb_tbl := (rb_w3 130 rfl rfl)
theorem rb_g8_449 : Cond.fieldLink "RentBoard" 449 "RentBoard" (rb_sn 0) "[I" ∈ rb_tbl := (rb_w3 200 rfl rfl)
theorem rb_g8_360 : Cond.fieldLink "RentBoard" 360 "RentBoard" (rb_sn 7) "[I" ∈ rb_tbl := (rb_w4 178 rfl rfl)
theorem rb_g8_417 : Cond.fieldLink "RentBoard" 417 "RentBoard" (rb_sn 5) "[I" ∈ rb_tbl := (rb_w5 26 rfl rfl)
theorem rb_g8_420 : Cond.fieldLink "RentBoard" 420 "RentBoard" (rb_sn 6) "[I" ∈ rb_tbl := (rb_w5 28 rfl rfl)
theorem rb_f9_9 : Cond.fieldLink "RentBoardModel" 9 ((rb_cq 9).2.1 0).1 ((rb_cq 9).2.1 0).2.1 ((rb_cq 9).2.1 0).2.2.1 ∈ rb_tbl := (rb_w5 172 rfl rfl)
theorem rb_f9_13 : Cond.fieldLink "RentBoardModel" 13 ((rb_cq 9).2.1 1).1 ((rb_cq 9).2.1 1).2.1 ((rb_cq 9).2.1 1).2.2.1 ∈ rb_tbl := (rb_w5 173 rfl rfl)
theorem rb_f9_109 : Cond.fieldLink "RentBoardModel" 109 ((rb_cq 9).2.1 2).1 ((rb_cq 9).2.1 2).2.1 ((rb_cq 9).2.1 2).2.2.1 ∈ rb_tbl := (rb_w5 174 rfl rfl)
theorem rb_f9_16 : Cond.fieldLink "RentBoardModel" 16 ((rb_cq 9).2.1 3).1 ((rb_cq 9).2.1 3).2.1 ((rb_cq 9).2.1 3).2.2.1 ∈ rb_tbl := (rb_w5 175 rfl rfl)
theorem rb_f9_116 : Cond.fieldLink "RentBoardModel" 116 ((rb_cq 9).2.1 4).1 ((rb_cq 9).2.1 4).2.1 ((rb_cq 9).2.1 4).2.2.1 ∈ rb_tbl := (rb_w5 176 rfl rfl)
theorem rb_f9_20 : Cond.fieldLink "RentBoardModel" 20 ((rb_cq 9).2.1 5).1 ((rb_cq 9).2.1 5).2.1 ((rb_cq 9).2.1 5).2.2.1 ∈ rb_tbl := (rb_w5 177 rfl rfl)
theorem rb_f9_106 : Cond.fieldLink "RentBoardModel" 106 ((rb_cq 9).2.1 6).1 ((rb_cq 9).2.1 6).2.1 ((rb_cq 9).2.1 6).2.2.1 ∈ rb_tbl := (rb_w5 178 rfl rfl)
theorem rb_f9_102 : Cond.fieldLink "RentBoardModel" 102 ((rb_cq 9).2.1 7).1 ((rb_cq 9).2.1 7).2.1 ((rb_cq 9).2.1 7).2.2.1 ∈ rb_tbl := (rb_w5 179 rfl rfl)
theorem rb_f9_119 : Cond.fieldLink "RentBoardModel" 119 ((rb_cq 9).2.1 8).1 ((rb_cq 9).2.1 8).2.1 ((rb_cq 9).2.1 8).2.2.1 ∈ rb_tbl := (rb_w5 180 rfl rfl)
theorem rb_f9_122 : Cond.fieldLink "RentBoardModel" 122 ((rb_cq 9).2.1 9).1 ((rb_cq 9).2.1 9).2.1 ((rb_cq 9).2.1 9).2.2.1 ∈ rb_tbl := (rb_w5 181 rfl rfl)
theorem rb_f9_125 : Cond.fieldLink "RentBoardModel" 125 ((rb_cq 9).2.1 10).1 ((rb_cq 9).2.1 10).2.1 ((rb_cq 9).2.1 10).2.2.1 ∈ rb_tbl := (rb_w5 182 rfl rfl)
theorem rb_f9_128 : Cond.fieldLink "RentBoardModel" 128 ((rb_cq 9).2.1 11).1 ((rb_cq 9).2.1 11).2.1 ((rb_cq 9).2.1 11).2.2.1 ∈ rb_tbl := (rb_w5 183 rfl rfl)
theorem rb_f9_131 : Cond.fieldLink "RentBoardModel" 131 ((rb_cq 9).2.1 12).1 ((rb_cq 9).2.1 12).2.1 ((rb_cq 9).2.1 12).2.2.1 ∈ rb_tbl := (rb_w5 184 rfl rfl)
theorem rb_f9_24 : Cond.fieldLink "RentBoardModel" 24 ((rb_cq 9).2.1 13).1 ((rb_cq 9).2.1 13).2.1 ((rb_cq 9).2.1 13).2.2.1 ∈ rb_tbl := (rb_w5 185 rfl rfl)
theorem rb_f9_27 : Cond.fieldLink "RentBoardModel" 27 ((rb_cq 9).2.1 14).1 ((rb_cq 9).2.1 14).2.1 ((rb_cq 9).2.1 14).2.2.1 ∈ rb_tbl := (rb_w5 186 rfl rfl)
theorem rb_f9_30 : Cond.fieldLink "RentBoardModel" 30 ((rb_cq 9).2.1 15).1 ((rb_cq 9).2.1 15).2.1 ((rb_cq 9).2.1 15).2.2.1 ∈ rb_tbl := (rb_w5 187 rfl rfl)
theorem rb_f9_213 : Cond.fieldLink "RentBoardModel" 213 ((rb_cq 9).2.1 16).1 ((rb_cq 9).2.1 16).2.1 ((rb_cq 9).2.1 16).2.2.1 ∈ rb_tbl := (rb_w5 188 rfl rfl)
theorem rb_f9_206 : Cond.fieldLink "RentBoardModel" 206 ((rb_cq 9).2.1 17).1 ((rb_cq 9).2.1 17).2.1 ((rb_cq 9).2.1 17).2.2.1 ∈ rb_tbl := (rb_w5 189 rfl rfl)
theorem rb_f9_33 : Cond.fieldLink "RentBoardModel" 33 ((rb_cq 9).2.1 18).1 ((rb_cq 9).2.1 18).2.1 ((rb_cq 9).2.1 18).2.2.1 ∈ rb_tbl := (rb_w5 190 rfl rfl)
theorem rb_f9_36 : Cond.fieldLink "RentBoardModel" 36 ((rb_cq 9).2.1 19).1 ((rb_cq 9).2.1 19).2.1 ((rb_cq 9).2.1 19).2.2.1 ∈ rb_tbl := (rb_w5 191 rfl rfl)
theorem rb_f9_178 : Cond.fieldLink "RentBoardModel" 178 ((rb_cq 9).2.1 20).1 ((rb_cq 9).2.1 20).2.1 ((rb_cq 9).2.1 20).2.2.1 ∈ rb_tbl := (rb_w5 192 rfl rfl)
theorem rb_f9_39 : Cond.fieldLink "RentBoardModel" 39 ((rb_cq 9).2.1 21).1 ((rb_cq 9).2.1 21).2.1 ((rb_cq 9).2.1 21).2.2.1 ∈ rb_tbl := (rb_w5 193 rfl rfl)
theorem rb_f9_42 : Cond.fieldLink "RentBoardModel" 42 ((rb_cq 9).2.1 22).1 ((rb_cq 9).2.1 22).2.1 ((rb_cq 9).2.1 22).2.2.1 ∈ rb_tbl := (rb_w5 194 rfl rfl)
theorem rb_f9_45 : Cond.fieldLink "RentBoardModel" 45 ((rb_cq 9).2.1 23).1 ((rb_cq 9).2.1 23).2.1 ((rb_cq 9).2.1 23).2.2.1 ∈ rb_tbl := (rb_w5 195 rfl rfl)
theorem rb_f9_290 : Cond.fieldLink "RentBoardModel" 290 ((rb_cq 9).2.1 24).1 ((rb_cq 9).2.1 24).2.1 ((rb_cq 9).2.1 24).2.2.1 ∈ rb_tbl := (rb_w5 196 rfl rfl)
theorem rb_f9_48 : Cond.fieldLink "RentBoardModel" 48 ((rb_cq 9).2.1 25).1 ((rb_cq 9).2.1 25).2.1 ((rb_cq 9).2.1 25).2.2.1 ∈ rb_tbl := (rb_w5 197 rfl rfl)
theorem rb_f9_51 : Cond.fieldLink "RentBoardModel" 51 ((rb_cq 9).2.1 26).1 ((rb_cq 9).2.1 26).2.1 ((rb_cq 9).2.1 26).2.2.1 ∈ rb_tbl := (rb_w5 198 rfl rfl)
theorem rb_f9_54 : Cond.fieldLink "RentBoardModel" 54 ((rb_cq 9).2.1 27).1 ((rb_cq 9).2.1 27).2.1 ((rb_cq 9).2.1 27).2.2.1 ∈ rb_tbl := (rb_w5 199 rfl rfl)
theorem rb_f9_57 : Cond.fieldLink "RentBoardModel" 57 ((rb_cq 9).2.1 28).1 ((rb_cq 9).2.1 28).2.1 ((rb_cq 9).2.1 28).2.2.1 ∈ rb_tbl := (rb_w5 200 rfl rfl)
theorem rb_f9_62 : Cond.fieldLink "RentBoardModel" 62 ((rb_cq 9).2.1 29).1 ((rb_cq 9).2.1 29).2.1 ((rb_cq 9).2.1 29).2.2.1 ∈ rb_tbl := (rb_w5 201 rfl rfl)
theorem rb_f9_65 : Cond.fieldLink "RentBoardModel" 65 ((rb_cq 9).2.1 30).1 ((rb_cq 9).2.1 30).2.1 ((rb_cq 9).2.1 30).2.2.1 ∈ rb_tbl := (rb_w5 202 rfl rfl)
theorem rb_f9_68 : Cond.fieldLink "RentBoardModel" 68 ((rb_cq 9).2.1 31).1 ((rb_cq 9).2.1 31).2.1 ((rb_cq 9).2.1 31).2.2.1 ∈ rb_tbl := (rb_w5 203 rfl rfl)
theorem rb_f9_71 : Cond.fieldLink "RentBoardModel" 71 ((rb_cq 9).2.1 32).1 ((rb_cq 9).2.1 32).2.1 ((rb_cq 9).2.1 32).2.2.1 ∈ rb_tbl := (rb_w5 204 rfl rfl)
theorem rb_f9_74 : Cond.fieldLink "RentBoardModel" 74 ((rb_cq 9).2.1 33).1 ((rb_cq 9).2.1 33).2.1 ((rb_cq 9).2.1 33).2.2.1 ∈ rb_tbl := (rb_w5 205 rfl rfl)
theorem rb_f9_77 : Cond.fieldLink "RentBoardModel" 77 ((rb_cq 9).2.1 34).1 ((rb_cq 9).2.1 34).2.1 ((rb_cq 9).2.1 34).2.2.1 ∈ rb_tbl := (rb_w5 206 rfl rfl)
theorem rb_f9_357 : Cond.fieldLink "RentBoardModel" 357 ((rb_cq 9).2.1 35).1 ((rb_cq 9).2.1 35).2.1 ((rb_cq 9).2.1 35).2.2.1 ∈ rb_tbl := (rb_w5 207 rfl rfl)
theorem rb_f9_80 : Cond.fieldLink "RentBoardModel" 80 ((rb_cq 9).2.1 36).1 ((rb_cq 9).2.1 36).2.1 ((rb_cq 9).2.1 36).2.2.1 ∈ rb_tbl := (rb_w5 208 rfl rfl)
theorem rb_f9_83 : Cond.fieldLink "RentBoardModel" 83 ((rb_cq 9).2.1 37).1 ((rb_cq 9).2.1 37).2.1 ((rb_cq 9).2.1 37).2.2.1 ∈ rb_tbl := (rb_w5 209 rfl rfl)
theorem rb_f9_366 : Cond.fieldLink "RentBoardModel" 366 ((rb_cq 9).2.1 38).1 ((rb_cq 9).2.1 38).2.1 ((rb_cq 9).2.1 38).2.2.1 ∈ rb_tbl := (rb_w5 210 rfl rfl)
theorem rb_f9_86 : Cond.fieldLink "RentBoardModel" 86 ((rb_cq 9).2.1 39).1 ((rb_cq 9).2.1 39).2.1 ((rb_cq 9).2.1 39).2.2.1 ∈ rb_tbl := (rb_w5 211 rfl rfl)
theorem rb_f9_89 : Cond.fieldLink "RentBoardModel" 89 ((rb_cq 9).2.1 40).1 ((rb_cq 9).2.1 40).2.1 ((rb_cq 9).2.1 40).2.2.1 ∈ rb_tbl := (rb_w5 212 rfl rfl)
theorem rb_f9_397 : Cond.fieldLink "RentBoardModel" 397 ((rb_cq 9).2.1 41).1 ((rb_cq 9).2.1 41).2.1 ((rb_cq 9).2.1 41).2.2.1 ∈ rb_tbl := (rb_w5 213 rfl rfl)
theorem rb_f9_181 : Cond.fieldLink "RentBoardModel" 181 ((rb_cq 9).2.1 42).1 ((rb_cq 9).2.1 42).2.1 ((rb_cq 9).2.1 42).2.2.1 ∈ rb_tbl := (rb_w5 214 rfl rfl)
theorem rb_f9_93 : Cond.fieldLink "RentBoardModel" 93 ((rb_cq 9).2.1 43).1 ((rb_cq 9).2.1 43).2.1 ((rb_cq 9).2.1 43).2.2.1 ∈ rb_tbl := (rb_w5 215 rfl rfl)
theorem rb_f9_96 : Cond.fieldLink "RentBoardModel" 96 ((rb_cq 9).2.1 44).1 ((rb_cq 9).2.1 44).2.1 ((rb_cq 9).2.1 44).2.2.1 ∈ rb_tbl := (rb_w5 216 rfl rfl)
theorem rb_f9_99 : Cond.fieldLink "RentBoardModel" 99 ((rb_cq 9).2.1 45).1 ((rb_cq 9).2.1 45).2.1 ((rb_cq 9).2.1 45).2.2.1 ∈ rb_tbl := (rb_w5 217 rfl rfl)
