theorem sd_mL_ok : ∀ (j : Nat) (q : sd_MI), sd_mL[j]? = some q → sd_mok q := fun j q hj => by
  have h : q ∈ sd_mL := List.mem_of_getElem? hj
  exact (List.mem_append.mp h).elim (fun h => sd_mc0 q h) (fun h => (List.mem_append.mp h).elim (fun h => sd_mc1 q h) (fun h => (List.mem_append.mp h).elim (fun h => sd_mc2 q h) (fun h => (List.mem_append.mp h).elim (fun h => sd_mc3 q h) (fun h => (List.mem_append.mp h).elim (fun h => sd_mc4 q h) (fun h => (List.mem_append.mp h).elim (fun h => sd_mc5 q h) (fun h => (List.mem_append.mp h).elim (fun h => sd_mc6 q h) (fun h => (List.mem_append.mp h).elim (fun h => sd_mc7 q h) (fun h => (List.mem_append.mp h).elim (fun h => sd_mc8 q h) (fun h => sd_mc9 q h)))))))))
set_option maxRecDepth 20000 in
theorem sd_cw0 : ∀ w ∈ u_ws RX0 TX0 12, w ∈ sd_G := sd_in_r _ [332, 334, 336, 338, 340, 342, 344, 346, 348, 350, 352, 354] (by decide +kernel) (by decide +kernel)
theorem sd_cd0 : ∀ k, k < 12 → (TX0 k).1 = RX0 := by decide +kernel
set_option maxRecDepth 20000 in
theorem sd_cw1 : ∀ w ∈ u_ws RX1 TX1 1, w ∈ sd_G := sd_in_r _ [406] (by decide +kernel) (by decide +kernel)
theorem sd_cd1 : ∀ k, k < 1 → (TX1 k).1 = RX1 := by decide +kernel
set_option maxRecDepth 20000 in
theorem sd_cw2 : ∀ w ∈ u_ws RX2 TX2 5, w ∈ sd_G := sd_in_r _ [384, 386, 388, 390, 392] (by decide +kernel) (by decide +kernel)
theorem sd_cd2 : ∀ k, k < 5 → (TX2 k).1 = RX2 := by decide +kernel
set_option maxRecDepth 20000 in
theorem sd_cw3 : ∀ w ∈ u_ws RX3 TX3 3, w ∈ sd_G := sd_in_r _ [367, 369, 371] (by decide +kernel) (by decide +kernel)
theorem sd_cd3 : ∀ k, k < 3 → (TX3 k).1 = RX3 := by decide +kernel
set_option maxRecDepth 20000 in
theorem sd_cw4 : ∀ w ∈ u_ws RX4 TX4 8, w ∈ sd_G := sd_in_r _ [269, 271, 273, 275, 277, 279, 281, 283] (by decide +kernel) (by decide +kernel)
theorem sd_cd4 : ∀ k, k < 8 → (TX4 k).1 = RX4 := by decide +kernel
set_option maxRecDepth 20000 in
theorem sd_cw5 : ∀ w ∈ u_ws RX5 TX5 1, w ∈ sd_G := sd_in_r _ [250] (by decide +kernel) (by decide +kernel)
theorem sd_cd5 : ∀ k, k < 1 → (TX5 k).1 = RX5 := by decide +kernel
set_option maxRecDepth 20000 in
theorem sd_cw6 : ∀ w ∈ u_ws RX6 TX6 1, w ∈ sd_G := sd_in_r _ [240] (by decide +kernel) (by decide +kernel)
theorem sd_cd6 : ∀ k, k < 1 → (TX6 k).1 = RX6 := by decide +kernel
set_option maxRecDepth 20000 in
theorem sd_cw7 : ∀ w ∈ u_ws RX7 TX7 8, w ∈ sd_G := sd_in_r _ [158, 160, 162, 164, 166, 168, 170, 172] (by decide +kernel) (by decide +kernel)
theorem sd_cd7 : ∀ k, k < 8 → (TX7 k).1 = RX7 := by decide +kernel
set_option maxRecDepth 20000 in
theorem sd_cw8 : ∀ w ∈ u_ws RX8 TX8 10, w ∈ sd_G := sd_in_r _ [217, 219, 221, 223, 225, 227, 229, 231, 233, 235] (by decide +kernel) (by decide +kernel)
theorem sd_cd8 : ∀ k, k < 10 → (TX8 k).1 = RX8 := by decide +kernel
set_option maxRecDepth 20000 in
theorem sd_cw9 : ∀ w ∈ u_ws RX9 TX9 18, w ∈ sd_G := sd_in_r _ [428, 430, 432, 434, 436, 438, 440, 442, 444, 446, 448, 450, 452, 454, 456, 458, 460, 462] (by decide +kernel) (by decide +kernel)
theorem sd_cd9 : ∀ k, k < 18 → (TX9 k).1 = RX9 := by decide +kernel
set_option maxRecDepth 20000 in
theorem sd_cw10 : ∀ w ∈ u_ws RX10 TX10 43, w ∈ sd_G := sd_in_r _ [1077, 1079, 1081, 1083, 1085, 1087, 1089, 1091, 1093, 1095, 1097, 1099, 1101, 1103, 1105, 1107, 1109, 1111, 1113, 1115, 1117, 1119, 1121, 1123, 1125, 1127, 1129, 1131, 1133, 1135, 1137, 1139, 1141, 1143, 1145, 1147, 1149, 1151, 1153, 1155, 1157, 1159, 1161] (by decide +kernel) (by decide +kernel)
theorem sd_cd10 : ∀ k, k < 43 → (TX10 k).1 = RX10 := by decide +kernel
theorem sd_cls_ok : ∀ (ci : Nat) (q : vw_C), vwCl[ci]? = some q → (∀ w ∈ u_ws q.1 q.2.1 q.2.2, w ∈ sd_G) ∧ (∀ k, k < q.2.2 → parseFieldDescriptor (q.2.1 k).2.2.1 = some (sd_ty ci k)) ∧ (∀ a, a < q.2.2 → ∀ b, b < q.2.2 → a ≠ b → (q.2.1 a).2.1 ≠ (q.2.1 b).2.1) ∧ q.1 = sd_cn ci ∧ (∀ k, k < q.2.2 → (q.2.1 k).1 = q.1)
  | 0, q, h => by cases h; exact ⟨sd_cw0, tyX0_ok, nmX0, rfl, sd_cd0⟩
  | 1, q, h => by cases h; exact ⟨sd_cw1, tyX1_ok, nmX1, rfl, sd_cd1⟩
  | 2, q, h => by cases h; exact ⟨sd_cw2, tyX2_ok, nmX2, rfl, sd_cd2⟩
  | 3, q, h => by cases h; exact ⟨sd_cw3, tyX3_ok, nmX3, rfl, sd_cd3⟩
  | 4, q, h => by cases h; exact ⟨sd_cw4, tyX4_ok, nmX4, rfl, sd_cd4⟩
  | 5, q, h => by cases h; exact ⟨sd_cw5, tyX5_ok, nmX5, rfl, sd_cd5⟩
  | 6, q, h => by cases h; exact ⟨sd_cw6, tyX6_ok, nmX6, rfl, sd_cd6⟩
  | 7, q, h => by cases h; exact ⟨sd_cw7, tyX7_ok, nmX7, rfl, sd_cd7⟩
  | 8, q, h => by cases h; exact ⟨sd_cw8, tyX8_ok, nmX8, rfl, sd_cd8⟩
  | 9, q, h => by cases h; exact ⟨sd_cw9, tyX9_ok, nmX9, rfl, sd_cd9⟩
  | 10, q, h => by cases h; exact ⟨sd_cw10, tyX10_ok, nmX10, rfl, sd_cd10⟩
  | n + 11, q, h => by simp [vwCl] at h

def sd_flW (e : (Nat × Nat) × (Nat × Nat)) : Cond := match vwCl[e.2.1]? with
  | some q => Cond.fieldLink (sd_cn e.1.1) e.1.2 q.1 (q.2.1 e.2.2).2.1 (q.2.1 e.2.2).2.2.1
  | none => Cond.tt
set_option maxRecDepth 20000 in
theorem sd_flw : ∀ w ∈ sd_flT.map sd_flW, w ∈ sd_G := sd_in_r _ [148, 149, 150, 151, 152, 153, 154, 155, 156, 157, 189, 190, 191, 192, 193, 194, 195, 196, 197, 198, 199, 200, 201, 202, 203, 204, 205, 206, 207, 208, 209, 210, 211, 212, 213, 214, 215, 216, 238, 239, 249, 260, 261, 262, 263, 264, 265, 266, 267, 268, 301, 302, 303, 304, 305, 306, 307, 308, 309, 310, 311, 312, 313, 314, 315, 316, 317, 318, 319, 320, 321, 322, 323, 324, 325, 326, 327, 328, 329, 330, 331, 363, 364, 365, 366, 374, 375, 376, 377, 378, 379, 380, 381, 382, 383, 405, 410, 411, 412, 413, 414, 415, 416, 417, 418, 419, 420, 421, 422, 423, 424, 425, 426, 427, 1034, 1035, 1036, 1037, 1038, 1039, 1040, 1041, 1042, 1043, 1044, 1045, 1046, 1047, 1048, 1049, 1050, 1051, 1052, 1053, 1054, 1055, 1056, 1057, 1058, 1059, 1060, 1061, 1062, 1063, 1064, 1065, 1066, 1067, 1068, 1069, 1070, 1071, 1072, 1073, 1074, 1075, 1076] (by decide +kernel) (by decide +kernel)
theorem sd_flc : sd_flT.all (fun e => match vwCl[e.2.1]? with | some q => decide (e.2.2 < q.2.2) | none => false) = true := by decide +kernel
theorem sd_fl_ok : ∀ (o i ci k : Nat), sd_flT.lookup (o, i) = some (ci, k) → ∃ q, vwCl[ci]? = some q ∧ k < q.2.2 ∧ Cond.fieldLink (sd_cn o) i q.1 (q.2.1 k).2.1 (q.2.1 k).2.2.1 ∈ sd_G := by
  intro o i ci k h
  have hm := sd_lkm h
  have h1 := List.all_eq_true.mp sd_flc _ hm
  have h2 := sd_flw _ (List.mem_map.mpr ⟨_, hm, rfl⟩)
  dsimp only at h1
  cases hq : vwCl[ci]? with
  | none => rw [hq] at h1; cases h1
  | some q =>
    rw [hq] at h1
    simp only [sd_flW, hq] at h2
    exact ⟨q, rfl, by simpa using h1, h2⟩
def sd_nlW (e : (Nat × Nat) × Nat) : List Cond := match vwCl[e.2]? with
  | some q => [Cond.classLink (sd_cn e.1.1) e.1.2 q.1, Cond.instantiable q.1 q.2.2, Cond.initialized q.1]
  | none => []
set_option maxRecDepth 20000 in
theorem sd_nlw : ∀ w ∈ sd_nlT.flatMap sd_nlW, w ∈ sd_G := sd_in_r _ [142, 143, 117, 177, 178, 118, 183, 184, 119, 243, 244, 120, 253, 255, 121, 287, 288, 122, 293, 184, 119, 295, 296, 123, 357, 358, 124, 396, 296, 123, 399, 400, 125] (by decide +kernel) (by decide +kernel)
theorem sd_nlc : sd_nlT.all (fun e => vwCl[e.2]?.isSome) = true := by decide +kernel
theorem sd_nl_ok : ∀ (o i ci : Nat), sd_nlT.lookup (o, i) = some ci → ∃ q, vwCl[ci]? = some q ∧ Cond.classLink (sd_cn o) i q.1 ∈ sd_G ∧ Cond.instantiable q.1 q.2.2 ∈ sd_G ∧ Cond.initialized q.1 ∈ sd_G := by
  intro o i ci h
  have hm := sd_lkm h
  have h1 := List.all_eq_true.mp sd_nlc _ hm
  have h2 : ∀ w ∈ sd_nlW ((o, i), ci), w ∈ sd_G := fun w hw => sd_nlw w (List.mem_flatMap.mpr ⟨_, hm, hw⟩)
  dsimp only at h1
  cases hq : vwCl[ci]? with
  | none => rw [hq] at h1; cases h1
  | some q =>
    simp only [sd_nlW, hq] at h2
    exact ⟨q, rfl, h2 _ (by simp), h2 _ (by simp), h2 _ (by simp)⟩
def sd_alW (e : (Nat × Nat) × Nat) : Cond := match vwCl[e.2]? with
  | some q => Cond.classLink (sd_cn e.1.1) e.1.2 q.1
  | none => Cond.tt
set_option maxRecDepth 20000 in
theorem sd_alw : ∀ w ∈ sd_alT.map sd_alW, w ∈ sd_G := sd_in_r _ [253, 287, 295, 396] (by decide +kernel) (by decide +kernel)
theorem sd_alc : sd_alT.all (fun e => match vwCl[e.2]? with | some q => decide (q.1 ∈ [RX4, RX2, RX0]) | none => false) = true := by decide +kernel
theorem sd_al_ok : ∀ (o i ci : Nat), sd_alT.lookup (o, i) = some ci → ∃ q, vwCl[ci]? = some q ∧ Cond.classLink (sd_cn o) i q.1 ∈ sd_G ∧ q.1 ∈ [RX4, RX2, RX0] := by
  intro o i ci h
  have hm := sd_lkm h
  have h1 := List.all_eq_true.mp sd_alc _ hm
  have h2 := sd_alw _ (List.mem_map.mpr ⟨_, hm, rfl⟩)
  dsimp only at h1
  cases hq : vwCl[ci]? with
  | none => rw [hq] at h1; cases h1
  | some q =>
    rw [hq] at h1
    simp only [sd_alW, hq] at h2
    exact ⟨q, rfl, h2, of_decide_eq_true h1⟩
set_option maxRecDepth 20000 in
theorem sd_lcw : ∀ w ∈ sd_lcT.map (fun e => Cond.constant (sd_cn e.1.1) e.1.2 (Int32.ofInt e.2)), w ∈ sd_G := sd_in_r _ [774, 775, 776, 942, 1263] (by decide +kernel) (by decide +kernel)
theorem sd_lcc : sd_lcT.all (fun e => decide ((Int32.ofInt e.2).toInt = e.2)) = true := by decide +kernel
theorem sd_lc_ok : ∀ (o i : Nat) (z : Int), sd_lcT.lookup (o, i) = some z → Cond.constant (sd_cn o) i (Int32.ofInt z) ∈ sd_G ∧ (Int32.ofInt z).toInt = z := by
  intro o i z h
  have hm := sd_lkm h
  exact ⟨sd_lcw _ (List.mem_map.mpr ⟨_, hm, rfl⟩), of_decide_eq_true (List.all_eq_true.mp sd_lcc _ hm)⟩
set_option maxRecDepth 20000 in
theorem sd_l2w : ∀ w ∈ sd_l2T.map (fun e => Cond.constantLong (sd_cn e.1.1) e.1.2 (Int64.ofInt e.2)), w ∈ sd_G := sd_in_r _ [939, 940, 941, 1196, 1205, 1206, 1207, 1276, 1277, 1278, 1279, 1280, 1281, 1282, 1283, 1284, 1285, 1298, 1322, 1323, 1376, 1483, 1492, 1548, 1564, 1565, 1602, 1643, 1644, 1649, 1650, 1651, 1652] (by decide +kernel) (by decide +kernel)
theorem sd_l2c : sd_l2T.all (fun e => decide ((Int64.ofInt e.2).toInt = e.2)) = true := by decide +kernel
theorem sd_l2_ok : ∀ (o i : Nat) (z : Int), sd_l2T.lookup (o, i) = some z → Cond.constantLong (sd_cn o) i (Int64.ofInt z) ∈ sd_G ∧ (Int64.ofInt z).toInt = z := by
  intro o i z h
  have hm := sd_lkm h
  exact ⟨sd_l2w _ (List.mem_map.mpr ⟨_, hm, rfl⟩), of_decide_eq_true (List.all_eq_true.mp sd_l2c _ hm)⟩
def sd_mlW (e : (Nat × Nat) × (Nat × Nat)) : List Cond := match e.2.1, sd_mL[e.2.2]? with
  | 4, _ => [Cond.methodLink (sd_cn e.1.1) e.1.2 objectInit]
  | 5, _ => [Cond.methodLink (sd_cn e.1.1) e.1.2 Lib.Math.max.name]
  | 6, _ => [Cond.methodLink (sd_cn e.1.1) e.1.2 Lib.Math.min.name]
  | 7, _ => [Cond.methodLink (sd_cn e.1.1) e.1.2 arraycopyName]
  | 0, some q => [Cond.methodLink (sd_cn e.1.1) e.1.2 q.1, Cond.instanceMethod q.1, Cond.selects q.1.cls q.1 q.1, Cond.initialized q.1.cls]
  | 1, some q => [Cond.methodLink (sd_cn e.1.1) e.1.2 q.1, Cond.static q.1, Cond.initialized q.1.cls]
  | 2, some q => [Cond.instanceMethod q.1, Cond.initialized q.1.cls]
  | 3, some q => [Cond.static q.1, Cond.initialized q.1.cls]
  | _, _ => []
def sd_mlC (e : (Nat × Nat) × (Nat × Nat)) : Bool := match e.2.1, sd_mL[e.2.2]? with
  | 4, _ => true
  | 5, _ => true
  | 6, _ => true
  | 7, _ => true
  | 0, some _ => true
  | 1, some _ => true
  | 2, some q => decide ((sd_cn e.1.1, e.1.2, q.1) ∈ sd_nw) && decide (q.1.name = "<init>") && decide (q.2.2.2.1 = none)
  | 3, some q => decide ((sd_cn e.1.1, e.1.2, q.1) ∈ sd_nw)
  | _, _ => false
