/-! what the tables' words say of our tables -/
theorem sd_cls_ok : ∀ (ci : Nat) (q : vw_C), vwCl[ci]? = some q → (∀ w ∈ u_ws q.1 q.2.1 q.2.2, w ∈ lw_tbl) ∧ (∀ k, k < q.2.2 → parseFieldDescriptor (q.2.1 k).2.2.1 = some (sd_ty ci k)) ∧ (∀ a, a < q.2.2 → ∀ b, b < q.2.2 → a ≠ b → (q.2.1 a).2.1 ≠ (q.2.1 b).2.1) ∧ q.1 = sd_cn ci ∧ (∀ k, k < q.2.2 → (q.2.1 k).1 = q.1) := sorry
theorem sd_fl_ok : ∀ (o i ci k : Nat), sd_flT.lookup (o, i) = some (ci, k) → ∃ q, vwCl[ci]? = some q ∧ k < q.2.2 ∧ Cond.fieldLink (sd_cn o) i q.1 (q.2.1 k).2.1 (q.2.1 k).2.2.1 ∈ lw_tbl := sorry
theorem sd_nl_ok : ∀ (o i ci : Nat), sd_nlT.lookup (o, i) = some ci → ∃ q, vwCl[ci]? = some q ∧ Cond.classLink (sd_cn o) i q.1 ∈ lw_tbl ∧ Cond.instantiable q.1 q.2.2 ∈ lw_tbl ∧ Cond.initialized q.1 ∈ lw_tbl := sorry
theorem sd_al_ok : ∀ (o i ci : Nat), sd_alT.lookup (o, i) = some ci → ∃ q, vwCl[ci]? = some q ∧ Cond.classLink (sd_cn o) i q.1 ∈ lw_tbl ∧ Cond.arrayOver (.object q.1) ∈ lw_tbl := sorry
theorem sd_lc_ok : ∀ (o i : Nat) (z : Int), sd_lcT.lookup (o, i) = some z → Cond.constant (sd_cn o) i (Int32.ofInt z) ∈ lw_tbl ∧ (Int32.ofInt z).toInt = z := sorry
theorem sd_l2_ok : ∀ (o i : Nat) (z : Int), sd_l2T.lookup (o, i) = some z → Cond.constantLong (sd_cn o) i (Int64.ofInt z) ∈ lw_tbl ∧ (Int64.ofInt z).toInt = z := sorry
/-- the word of a call of kind k -/
def sd_mw (o i k j : Nat) : Prop := match k with
  | 4 => Cond.methodLink (sd_cn o) i objectInit ∈ lw_tbl
  | 5 => Cond.methodLink (sd_cn o) i Lib.Math.max.name ∈ lw_tbl
  | 6 => Cond.methodLink (sd_cn o) i Lib.Math.min.name ∈ lw_tbl
  | 7 => Cond.methodLink (sd_cn o) i arraycopyName ∈ lw_tbl
  | 0 => ∃ q, sd_mL[j]? = some q ∧ Cond.methodLink (sd_cn o) i q.1 ∈ lw_tbl ∧ Cond.instanceMethod q.1 ∈ lw_tbl ∧ Cond.selects q.1.cls q.1 q.1 ∈ lw_tbl ∧ Cond.initialized q.1.cls ∈ lw_tbl
  | 1 => ∃ q, sd_mL[j]? = some q ∧ Cond.methodLink (sd_cn o) i q.1 ∈ lw_tbl ∧ Cond.static q.1 ∈ lw_tbl ∧ Cond.initialized q.1.cls ∈ lw_tbl
  | 2 => ∃ q, sd_mL[j]? = some q ∧ Cond.methodLinkNest (sd_cn o) i q.1 "SlipDesk" ∈ lw_tbl ∧ Cond.instanceMethod q.1 ∈ lw_tbl ∧ q.1.name = "<init>" ∧ q.2.2.2.1 = none ∧ Cond.initialized q.1.cls ∈ lw_tbl
  | 3 => ∃ q, sd_mL[j]? = some q ∧ Cond.methodLinkNest (sd_cn o) i q.1 "SlipDesk" ∈ lw_tbl ∧ Cond.static q.1 ∈ lw_tbl ∧ Cond.initialized q.1.cls ∈ lw_tbl
  | _ => False
theorem sd_ml_ok : ∀ (o i k j : Nat), sd_mlT.lookup (o, i) = some (k, j) → sd_mw o i k j := sorry
/-- what holds of every method of the table -/
def sd_mok (q : sd_MI) : Prop := Cond.code q.1 q.2.1 q.2.2.1 q.2.2.2.1 ∈ lw_tbl ∧ plainName q.1.cls = true ∧ q.1.cls = sd_cn q.2.2.2.2.1 ∧ (q.1.cls ≠ "java/lang/invoke/MethodHandle" ∧ q.1.cls ≠ "java/lang/invoke/VarHandle" ∧ (parseMethodDescriptor q.1.desc).map (fun d => d.parameters.length) = some q.2.2.2.2.2.1) ∧ q.2.2.1 ≤ 13 ∧ ∀ e ∈ q.2.2.2.2.2.2, decode q.2.1 e.1 = .ok e.2
theorem sd_mL_ok : ∀ (j : Nat) (q : sd_MI), sd_mL[j]? = some q → sd_mok q := sorry
theorem sd_ws_ok : Cond.arrayClass .int ∈ lw_tbl ∧ Cond.arrayClass .long ∈ lw_tbl ∧ Cond.arrayClass .byte ∈ lw_tbl ∧ Cond.arrayClass .boolean ∈ lw_tbl ∧ Cond.instanceMethod objectInit ∈ lw_tbl ∧ Cond.code objectInit ⟨#[0xb1]⟩ 1 none ∈ lw_tbl := sorry
theorem sd_ws_ok2 : Cond.static Lib.Math.max.name ∈ lw_tbl ∧ Cond.code Lib.Math.max.name Lib.Math.max.code 2 (some .int) ∈ lw_tbl ∧ Cond.static Lib.Math.min.name ∈ lw_tbl ∧ Cond.code Lib.Math.min.name Lib.Math.min.code 2 (some .int) ∈ lw_tbl ∧ Cond.initialized "java/lang/Math" ∈ lw_tbl ∧ Cond.native arraycopyName ∈ lw_tbl ∧ Cond.static arraycopyName ∈ lw_tbl ∧ Cond.initialized "java/lang/System" ∈ lw_tbl := sorry
theorem sd_good : lw_tbl.all goodWord = true := sorry
