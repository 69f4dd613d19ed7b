/-! the one text constant, and the two statics that the JDK reads on its way: they lie outside A, and nothing changes them -/
def sd_txt : String := "offer writes stands needs lines placed order short waiting gone day slip take if and or not "
def sd_wb : List Int32 := [111, 102, 102, 101, 114, 32, 119, 114, 105, 116, 101, 115, 32, 115, 116, 97, 110, 100, 115, 32, 110, 101, 101, 100, 115, 32, 108, 105, 110, 101, 115, 32, 112, 108, 97, 99, 101, 100, 32, 111, 114, 100, 101, 114, 32, 115, 104, 111, 114, 116, 32, 119, 97, 105, 116, 105, 110, 103, 32, 103, 111, 110, 101, 32, 100, 97, 121, 32, 115, 108, 105, 112, 32, 116, 97, 107, 101, 32, 105, 102, 32, 97, 110, 100, 32, 111, 114, 32, 110, 111, 116, 32]
def sd_St (adK adV : Nat → Nat) (A : Nat → Prop) (U : State) (H : Heap) : Prop := vk_S 1 [92] [sd_wb] adK adV A U H ∧ vk_R "SlipDesk$Text" 62 sd_txt (adK 0) U ∧ va_Z "java/lang/String" "COMPACT_STRINGS" "Z" (.int 1) A U H ∧ va_Zq "jdk/internal/util/Preconditions" "SIOOBE_FORMATTER" "Ljava/util/function/BiFunction;" A U H
def sd_SS (A : Nat → Prop) (U : State) (H : Heap) : Prop := ∃ adK adV, sd_St adK adV A U H
theorem sd_SS_call {A B : Nat → Prop} {s U : State} {H : Heap} {locs : List Loc} (h : sd_SS A s s.heap) (hS : va_S A s.heap H locs) (hU : U.heap = H) (hW : s.WarmedH U.vm) (hAB : ∀ q, B q → A q) : sd_SS B U U.heap := by
  obtain ⟨adK, adV, h1, h2, h3, h4⟩ := h
  rw [hU]
  exact ⟨adK, adV, ((h1.kept hS.2.1).moved hW.alike).narrow hAB, h2.warm hW, ((h3.kept hS.2.1).moved hW.alike).narrow hAB, ((h4.kept hS.2.1).moved hW.alike).narrow hAB⟩
theorem sd_SS_same {A : Nat → Prop} {u U : State} (e : U.vm = u.vm) (eh : U.heap = u.heap) (h : sd_SS A u u.heap) : sd_SS A U U.heap := by
  obtain ⟨adK, adV, h1, h2, h3, h4⟩ := h
  have hv : u.vm.Alike U.vm := by rw [e]; exact Vm.Alike.refl _
  rw [eh]
  exact ⟨adK, adV, h1.moved hv, h2.same e, h3.moved hv, h4.moved hv⟩
