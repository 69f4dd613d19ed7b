/-! what the tables' words say of our tables: sd_G the words that hold on at every call, sd_NW those that a contract must carry -/
def sd_G : List Cond := lw_tbl.filter goodWord
theorem sd_Gi {w : Cond} (h : w ∈ lw_tbl) (hg : goodWord w = true) : w ∈ sd_G := List.mem_filter.mpr ⟨h, hg⟩
theorem sd_Gg : ∀ w ∈ sd_G, (w.onTables && w.keeps) = true ∨ ∃ ty, w = .arrayClass ty := fun w h => good_of_word (List.mem_filter.mp h).2
theorem sd_Gt : ∀ w ∈ sd_G, w ∈ lw_tbl := fun w h => (List.mem_filter.mp h).1
/-- the nest's calls: own class, index, method -/
def sd_nw : List (String × Nat × MethodName) := [(sd_cn 9, 9, yX7_init), (sd_cn 9, 18, yX6_init), (sd_cn 6, 11, yX8_init), (sd_cn 9, 25, yX5_init), (sd_cn 9, 36, yX4_init), (sd_cn 9, 39, yX2_init), (sd_cn 2, 11, yX8_init), (sd_cn 2, 20, yX0_init), (sd_cn 2, 27, yX3_init), (sd_cn 9, 58, yX0_init), (sd_cn 9, 61, yX1_init), (sd_cn 1, 44, yX9_nthBit)]
def sd_NW (U : State) : Prop := (∀ q ∈ sd_nw, va_Nw (.methodLinkNest q.1 q.2.1 q.2.2 "SlipDesk") U) ∧ ∀ C ∈ [RX4, RX2, RX0], va_AO C U
theorem sd_NW_w {s U : State} (hW : s.WarmedH U.vm) (h : sd_NW s) : sd_NW U := ⟨fun q hq => va_Nw.warmM hW (h.1 q hq), fun C hC => va_AO.moved hW.alike (h.2 C hC)⟩
theorem sd_NW_s {u U : State} (e : u.vm = U.vm) (h : sd_NW u) : sd_NW U := ⟨fun q hq => va_Nw.same rfl e (h.1 q hq), fun C hC => va_AO.moved (by rw [e]; exact Vm.Alike.refl _) (h.2 C hC)⟩
theorem sd_cls_ok : ∀ (ci : Nat) (q : vw_C), vwCl[ci]? = some q → (∀ w ∈ u_ws q.1 q.2.1 q.2.2, w ∈ sd_G) ∧ (∀ k, k < q.2.2 → parseFieldDescriptor (q.2.1 k).2.2.1 = some (sd_ty ci k)) ∧ (∀ a, a < q.2.2 → ∀ b, b < q.2.2 → a ≠ b → (q.2.1 a).2.1 ≠ (q.2.1 b).2.1) ∧ q.1 = sd_cn ci ∧ (∀ k, k < q.2.2 → (q.2.1 k).1 = q.1) := sorry
theorem sd_fl_ok : ∀ (o i ci k : Nat), sd_flT.lookup (o, i) = some (ci, k) → ∃ q, vwCl[ci]? = some q ∧ k < q.2.2 ∧ Cond.fieldLink (sd_cn o) i q.1 (q.2.1 k).2.1 (q.2.1 k).2.2.1 ∈ sd_G := sorry
theorem sd_nl_ok : ∀ (o i ci : Nat), sd_nlT.lookup (o, i) = some ci → ∃ q, vwCl[ci]? = some q ∧ Cond.classLink (sd_cn o) i q.1 ∈ sd_G ∧ Cond.instantiable q.1 q.2.2 ∈ sd_G ∧ Cond.initialized q.1 ∈ sd_G := sorry
theorem sd_al_ok : ∀ (o i ci : Nat), sd_alT.lookup (o, i) = some ci → ∃ q, vwCl[ci]? = some q ∧ Cond.classLink (sd_cn o) i q.1 ∈ sd_G ∧ q.1 ∈ [RX4, RX2, RX0] := sorry
theorem sd_lc_ok : ∀ (o i : Nat) (z : Int), sd_lcT.lookup (o, i) = some z → Cond.constant (sd_cn o) i (Int32.ofInt z) ∈ sd_G ∧ (Int32.ofInt z).toInt = z := sorry
theorem sd_l2_ok : ∀ (o i : Nat) (z : Int), sd_l2T.lookup (o, i) = some z → Cond.constantLong (sd_cn o) i (Int64.ofInt z) ∈ sd_G ∧ (Int64.ofInt z).toInt = z := sorry
/-- the word of a call of kind k -/
def sd_mw (o i k j : Nat) : Prop := match k with
  | 4 => Cond.methodLink (sd_cn o) i objectInit ∈ sd_G
  | 5 => Cond.methodLink (sd_cn o) i Lib.Math.max.name ∈ sd_G
  | 6 => Cond.methodLink (sd_cn o) i Lib.Math.min.name ∈ sd_G
  | 7 => Cond.methodLink (sd_cn o) i arraycopyName ∈ sd_G
  | 0 => ∃ q, sd_mL[j]? = some q ∧ Cond.methodLink (sd_cn o) i q.1 ∈ sd_G ∧ Cond.instanceMethod q.1 ∈ sd_G ∧ Cond.selects q.1.cls q.1 q.1 ∈ sd_G ∧ Cond.initialized q.1.cls ∈ sd_G
  | 1 => ∃ q, sd_mL[j]? = some q ∧ Cond.methodLink (sd_cn o) i q.1 ∈ sd_G ∧ Cond.static q.1 ∈ sd_G ∧ Cond.initialized q.1.cls ∈ sd_G
  | 2 => ∃ q, sd_mL[j]? = some q ∧ (sd_cn o, i, q.1) ∈ sd_nw ∧ Cond.instanceMethod q.1 ∈ sd_G ∧ q.1.name = "<init>" ∧ q.2.2.2.1 = none ∧ Cond.initialized q.1.cls ∈ sd_G
  | 3 => ∃ q, sd_mL[j]? = some q ∧ (sd_cn o, i, q.1) ∈ sd_nw ∧ Cond.static q.1 ∈ sd_G ∧ Cond.initialized q.1.cls ∈ sd_G
  | _ => False
theorem sd_ml_ok : ∀ (o i k j : Nat), sd_mlT.lookup (o, i) = some (k, j) → sd_mw o i k j := sorry
/-- what holds of every method of the table -/
def sd_mok (q : sd_MI) : Prop := Cond.code q.1 q.2.1 q.2.2.1 q.2.2.2.1 ∈ sd_G ∧ plainName q.1.cls = true ∧ q.1.cls = sd_cn q.2.2.2.2.1 ∧ (q.1.cls ≠ "java/lang/invoke/MethodHandle" ∧ q.1.cls ≠ "java/lang/invoke/VarHandle" ∧ (parseMethodDescriptor q.1.desc).map (fun d => d.parameters.length) = some q.2.2.2.2.2.1) ∧ q.2.2.1 ≤ 13 ∧ ∀ e ∈ q.2.2.2.2.2.2, decode q.2.1 e.1 = .ok e.2
theorem sd_mL_ok : ∀ (j : Nat) (q : sd_MI), sd_mL[j]? = some q → sd_mok q := sorry
theorem sd_ws_ok : Cond.arrayClass .int ∈ sd_G ∧ Cond.arrayClass .long ∈ sd_G ∧ Cond.arrayClass .byte ∈ sd_G ∧ Cond.arrayClass .boolean ∈ sd_G ∧ Cond.instanceMethod objectInit ∈ sd_G ∧ Cond.code objectInit ⟨#[0xb1]⟩ 1 none ∈ sd_G := sorry
theorem sd_ws_ok2 : Cond.static Lib.Math.max.name ∈ sd_G ∧ Cond.code Lib.Math.max.name Lib.Math.max.code 2 (some .int) ∈ sd_G ∧ Cond.static Lib.Math.min.name ∈ sd_G ∧ Cond.code Lib.Math.min.name Lib.Math.min.code 2 (some .int) ∈ sd_G ∧ Cond.initialized "java/lang/Math" ∈ sd_G ∧ Cond.native arraycopyName ∈ sd_G ∧ Cond.static arraycopyName ∈ sd_G ∧ Cond.initialized "java/lang/System" ∈ sd_G := sorry
