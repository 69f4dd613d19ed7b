/-! what the tables' words say of our tables: sd_G the words that hold on at every call, sd_NW those that a contract must carry -/
def sd_G : List Cond := lw_tbl.filter goodWord
theorem sd_Gi {w : Cond} (h : w ∈ lw_tbl) (hg : goodWord w = true) : w ∈ sd_G := List.mem_filter.mpr ⟨h, hg⟩
theorem sd_Gg : ∀ w ∈ sd_G, (w.onTables && w.keeps) = true ∨ ∃ ty, w = .arrayClass ty := fun w h => good_of_word (List.mem_filter.mp h).2
theorem sd_Gt : ∀ w ∈ sd_G, w ∈ lw_tbl := fun w h => (List.mem_filter.mp h).1
/-- the nest's calls: own class, index, method -/
def sd_nw : List (String × Nat × MethodName) := [(sd_cn 9, 9, yX7_init), (sd_cn 9, 18, yX6_init), (sd_cn 6, 11, yX8_init), (sd_cn 9, 25, yX5_init), (sd_cn 9, 36, yX4_init), (sd_cn 9, 39, yX2_init), (sd_cn 2, 11, yX8_init), (sd_cn 2, 20, yX0_init), (sd_cn 2, 27, yX3_init), (sd_cn 9, 58, yX0_init), (sd_cn 9, 61, yX1_init), (sd_cn 1, 44, yX9_nthBit)]
def sd_NW (U : State) : Prop := (∀ q ∈ sd_nw, va_Nw (.methodLinkNest q.1 q.2.1 q.2.2 "SlipDesk") U) ∧ ∀ C ∈ [RX4, RX2, RX0], va_AO C U
theorem sd_NW_w {s U : State} (hW : s.WarmedH U.vm) (h : sd_NW s) : sd_NW U := ⟨fun q hq => va_Nw.warmM hW (h.1 q hq), fun C hC => va_AO.moved hW.alike (h.2 C hC)⟩
theorem sd_NW_s {u U : State} (e : u.vm = U.vm) (h : sd_NW u) : sd_NW U := ⟨fun q hq => va_Nw.same rfl e (h.1 q hq), fun C hC => va_AO.moved (by rw [e]; exact Vm.Alike.refl _) (h.2 C hC)⟩
/-- the word of a call of kind k -/
def sd_mw (o i k j : Nat) : Prop := match k with
  | 4 => Cond.methodLink (sd_cn o) i objectInit ∈ sd_G
  | 5 => Cond.methodLink (sd_cn o) i Lib.Math.max.name ∈ sd_G
  | 6 => Cond.methodLink (sd_cn o) i Lib.Math.min.name ∈ sd_G
  | 7 => Cond.methodLink (sd_cn o) i arraycopyName ∈ sd_G
  | 0 => ∃ q, sd_mL[j]? = some q ∧ Cond.methodLink (sd_cn o) i q.1 ∈ sd_G ∧ Cond.instanceMethod q.1 ∈ sd_G ∧ Cond.selects q.1.cls q.1 q.1 ∈ sd_G ∧ Cond.initialized q.1.cls ∈ sd_G
  | 1 => ∃ q, sd_mL[j]? = some q ∧ Cond.methodLink (sd_cn o) i q.1 ∈ sd_G ∧ Cond.static q.1 ∈ sd_G ∧ Cond.initialized q.1.cls ∈ sd_G
  | 2 => ∃ q, sd_mL[j]? = some q ∧ (sd_cn o, i, q.1) ∈ sd_nw ∧ Cond.instanceMethod q.1 ∈ sd_G ∧ q.1.name = "<init>" ∧ q.2.2.2.1 = none ∧ Cond.initialized q.1.cls ∈ sd_G
  | 3 => ∃ q, sd_mL[j]? = some q ∧ (sd_cn o, i, q.1) ∈ sd_nw ∧ Cond.static q.1 ∈ sd_G ∧ Cond.initialized q.1.cls ∈ sd_G
  | _ => False
/-- what holds of every method of the table -/
def sd_mok (q : sd_MI) : Prop := Cond.code q.1 q.2.1 q.2.2.1 q.2.2.2.1 ∈ sd_G ∧ plainName q.1.cls = true ∧ q.1.cls = sd_cn q.2.2.2.2.1 ∧ (q.1.cls ≠ "java/lang/invoke/MethodHandle" ∧ q.1.cls ≠ "java/lang/invoke/VarHandle" ∧ (parseMethodDescriptor q.1.desc).map (fun d => d.parameters.length) = some q.2.2.2.2.2.1) ∧ q.2.2.1 ≤ 13 ∧ ∀ e ∈ q.2.2.2.2.2.2, decode q.2.1 e.1 = .ok e.2
theorem sd_in_r (ws : List Cond) (ps : List Nat) (hp : ws = ps.filterMap (fun i => lw_tbl[i]?)) (h : ws.all goodWord = true) : ∀ w ∈ ws, w ∈ sd_G := by
  intro w hw
  have h1 := List.all_eq_true.mp h w hw
  rw [hp] at hw
  obtain ⟨i, -, hi⟩ := List.mem_filterMap.mp hw
  exact sd_Gi (List.mem_of_getElem? hi) h1
theorem sd_lkm {α : Type} {k : Nat × Nat} {v : α} : ∀ {t : List ((Nat × Nat) × α)}, t.lookup k = some v → (k, v) ∈ t
  | [], h => by cases h
  | (a1, a2) :: t, h => by
    by_cases hk : k = a1
    · subst hk
      rw [List.lookup_cons_self] at h
      cases h
      exact List.mem_cons_self
    · have hk2 : (k == a1) = false := by simp [hk]
      rw [List.lookup, hk2] at h
      exact List.mem_cons_of_mem _ (sd_lkm h)

