theorem sd_lk_mem {k : Nat} {v : Jvm.ClassFile.Instr × Nat} : ∀ {t : List (Nat × Jvm.ClassFile.Instr × Nat)}, t.lookup k = some v → (k, v) ∈ t
  | [], h => by cases h
  | (a1, a2) :: t, h => by
    by_cases hk : k = a1
    · subst hk
      rw [List.lookup_cons_self] at h
      cases h
      exact List.mem_cons_self
    · have hk2 : (k == a1) = false := by simp [hk]
      rw [List.lookup, hk2] at h
      exact List.mem_cons_of_mem _ (sd_lk_mem h)
/-! String.length() and charAt(i) of the text constant: the JDK's own methods, by contract -/
theorem dj_ln_0 : decode cJ0_length_8abf5 0 = .ok (.aload_n 0, 1) := by decide +kernel
theorem dj_ln_1 : decode cJ0_length_8abf5 1 = .ok (.getfield 9, 3) := by decide +kernel
theorem dj_ln_4 : decode cJ0_length_8abf5 4 = .ok (.arraylength, 1) := by decide +kernel
theorem dj_ln_5 : decode cJ0_length_8abf5 5 = .ok (.aload_n 0, 1) := by decide +kernel
theorem dj_ln_6 : decode cJ0_length_8abf5 6 = .ok (.invokevirtual 335, 3) := by decide +kernel
theorem dj_ln_9 : decode cJ0_length_8abf5 9 = .ok (.ishr, 1) := by decide +kernel
theorem dj_ln_10 : decode cJ0_length_8abf5 10 = .ok (.ireturn, 1) := by decide +kernel
theorem dj_co_0 : decode cJ0_coder_7d493 0 = .ok (.getstatic 38, 3) := by decide +kernel
theorem dj_co_3 : decode cJ0_coder_7d493 3 = .ok (.ifCond .eq 10, 3) := by decide +kernel
theorem dj_co_6 : decode cJ0_coder_7d493 6 = .ok (.aload_n 0, 1) := by decide +kernel
theorem dj_co_7 : decode cJ0_coder_7d493 7 = .ok (.getfield 15, 3) := by decide +kernel
theorem dj_co_10 : decode cJ0_coder_7d493 10 = .ok (.goto 4, 3) := by decide +kernel
theorem dj_co_14 : decode cJ0_coder_7d493 14 = .ok (.ireturn, 1) := by decide +kernel
theorem dj_is_0 : decode cJ0_isLatin1_aae02 0 = .ok (.getstatic 38, 3) := by decide +kernel
theorem dj_is_3 : decode cJ0_isLatin1_aae02 3 = .ok (.ifCond .eq 14, 3) := by decide +kernel
theorem dj_is_6 : decode cJ0_isLatin1_aae02 6 = .ok (.aload_n 0, 1) := by decide +kernel
theorem dj_is_7 : decode cJ0_isLatin1_aae02 7 = .ok (.getfield 15, 3) := by decide +kernel
theorem dj_is_10 : decode cJ0_isLatin1_aae02 10 = .ok (.ifCond .ne 7, 3) := by decide +kernel
theorem dj_is_13 : decode cJ0_isLatin1_aae02 13 = .ok (.iconst 1, 1) := by decide +kernel
theorem dj_is_14 : decode cJ0_isLatin1_aae02 14 = .ok (.goto 4, 3) := by decide +kernel
theorem dj_is_18 : decode cJ0_isLatin1_aae02 18 = .ok (.ireturn, 1) := by decide +kernel
theorem dj_ca_0 : decode cJ0_charAt_5068e 0 = .ok (.aload_n 0, 1) := by decide +kernel
theorem dj_ca_1 : decode cJ0_charAt_5068e 1 = .ok (.invokevirtual 492, 3) := by decide +kernel
theorem dj_ca_4 : decode cJ0_charAt_5068e 4 = .ok (.ifCond .eq 12, 3) := by decide +kernel
theorem dj_ca_7 : decode cJ0_charAt_5068e 7 = .ok (.aload_n 0, 1) := by decide +kernel
theorem dj_ca_8 : decode cJ0_charAt_5068e 8 = .ok (.getfield 9, 3) := by decide +kernel
theorem dj_ca_11 : decode cJ0_charAt_5068e 11 = .ok (.iload_n 1, 1) := by decide +kernel
theorem dj_ca_12 : decode cJ0_charAt_5068e 12 = .ok (.invokestatic 495, 3) := by decide +kernel
theorem dj_ca_15 : decode cJ0_charAt_5068e 15 = .ok (.ireturn, 1) := by decide +kernel
theorem dj_la_0 : decode cJ1_charAt_3b067 0 = .ok (.iload_n 1, 1) := by decide +kernel
theorem dj_la_1 : decode cJ1_charAt_3b067 1 = .ok (.aload_n 0, 1) := by decide +kernel
theorem dj_la_2 : decode cJ1_charAt_3b067 2 = .ok (.arraylength, 1) := by decide +kernel
theorem dj_la_3 : decode cJ1_charAt_3b067 3 = .ok (.invokestatic 9, 3) := by decide +kernel
theorem dj_la_6 : decode cJ1_charAt_3b067 6 = .ok (.aload_n 0, 1) := by decide +kernel
theorem dj_la_7 : decode cJ1_charAt_3b067 7 = .ok (.iload_n 1, 1) := by decide +kernel
theorem dj_la_8 : decode cJ1_charAt_3b067 8 = .ok (.baload, 1) := by decide +kernel
theorem dj_la_9 : decode cJ1_charAt_3b067 9 = .ok (.sipush 255, 3) := by decide +kernel
theorem dj_la_12 : decode cJ1_charAt_3b067 12 = .ok (.iand, 1) := by decide +kernel
theorem dj_la_13 : decode cJ1_charAt_3b067 13 = .ok (.i2c, 1) := by decide +kernel
theorem dj_la_14 : decode cJ1_charAt_3b067 14 = .ok (.ireturn, 1) := by decide +kernel
theorem dj_ck_0 : decode cJ0_checkIndex_df160 0 = .ok (.iload_n 0, 1) := by decide +kernel
theorem dj_ck_1 : decode cJ0_checkIndex_df160 1 = .ok (.iload_n 1, 1) := by decide +kernel
theorem dj_ck_2 : decode cJ0_checkIndex_df160 2 = .ok (.getstatic 1053, 3) := by decide +kernel
theorem dj_ck_5 : decode cJ0_checkIndex_df160 5 = .ok (.invokestatic 1059, 3) := by decide +kernel
theorem dj_ck_8 : decode cJ0_checkIndex_df160 8 = .ok (.pop, 1) := by decide +kernel
theorem dj_ck_9 : decode cJ0_checkIndex_df160 9 = .ok (.return_, 1) := by decide +kernel
theorem dj_pc_0 : decode cJ3_checkIndex_8e157 0 = .ok (.iload_n 0, 1) := by decide +kernel
theorem dj_pc_1 : decode cJ3_checkIndex_8e157 1 = .ok (.ifCond .lt 8, 3) := by decide +kernel
theorem dj_pc_4 : decode cJ3_checkIndex_8e157 4 = .ok (.iload_n 0, 1) := by decide +kernel
theorem dj_pc_5 : decode cJ3_checkIndex_8e157 5 = .ok (.iload_n 1, 1) := by decide +kernel
theorem dj_pc_6 : decode cJ3_checkIndex_8e157 6 = .ok (.if_icmp .lt 10, 3) := by decide +kernel
theorem dj_pc_16 : decode cJ3_checkIndex_8e157 16 = .ok (.iload_n 0, 1) := by decide +kernel
theorem dj_pc_17 : decode cJ3_checkIndex_8e157 17 = .ok (.ireturn, 1) := by decide +kernel
def sd_wj (y : MethodName) (c : ByteArray) (n : Nat) (r : Option FieldType) : List Cond := Cond.code y c n r :: sd_G
theorem sd_wjg {y : MethodName} {c : ByteArray} {n : Nat} {r : Option FieldType} (h : Cond.code y c n r ∈ sd_G) : GoodIn sd_G (sd_wj y c n r) := by
  intro w hw
  have : w ∈ sd_G := by
    rcases List.mem_cons.mp hw with h1 | h1
    · rw [h1]; exact h
    · exact h1
  exact ⟨this, sd_Gg w this⟩
def sd_Sp (adK adV : Nat → Nat) (A : Nat → Prop) (cav : List Value) : Array Value → State → Prop := va_Pc cav (fun U => sd_St adK adV A U U.heap)
theorem sd_Sp_b {adK adV : Nat → Nat} {A : Nat → Prop} {cav : List Value} : FrameBlind (sd_Sp adK adV A cav) := by
  intro a U g mk q
  obtain ⟨q0, h1, h2, h3, h4⟩ := q
  have hv : U.vm.Alike (U.calling g mk a).vm := Vm.Alike.refl U.vm
  exact ⟨q0, h1.moved hv, h2.same rfl, h3.moved hv, h4.moved hv⟩
section SdStr
variable {p : Program} {l : Launch} {e : Env} {R : Room} {s : State} {m : MethodId} {args : Array Value} {below : List Frame} {meth : Method} {c : Code} {H : Heap} {locs : List Loc} {cells slots : Nat} {Q : State → Prop} {adK adV : Nat → Nat} {A : Nat → Prop}
theorem sd_Sp_u {cav : List Value} (h : sd_St adK adV A s s.heap) (hS : va_S A s.heap H locs) : ∀ U : State, U.heap = H → s.WarmedH U.vm → sd_Sp adK adV A cav cav.toArray U := by
  intro U hU hW
  obtain ⟨h1, h2, h3, h4⟩ := h
  refine ⟨rfl, ?_⟩
  show sd_St adK adV A U U.heap
  rw [hU]
  exact ⟨(h1.kept hS.2.1).moved hW.alike, h2.warm hW, (h3.kept hS.2.1).moved hW.alike, (h4.kept hS.2.1).moved hW.alike⟩
/-- behind a call that changes nothing -/
theorem sd_wc {post : Int32 → Prop} {a : Array Value} {pc : Nat} {ls : Array Slot} {st0 rest : List Value} (hr : va_Run p l e R s m args below meth c H locs cells slots 0 0 (F0 m pc ls st0) rest (vp_Si post a) (fun _ => False)) (kk : ∀ r : Int32, post r → W p l e R s m args below meth c H locs cells slots Q (F0 m (pc + 3) ls (.int r :: rest))) : W p l e R s m args below meth c H locs cells slots Q (F0 m pc ls st0) := by
  intro T hT X
  obtain ⟨v, st₀, t, T', L, h0, X', hL, e1, e2, ⟨r, hv, hp, hh⟩, st⟩ := hr T hT X
  cases hv
  have hLn : L = [] := by
    cases L with
    | nil => rfl
    | cons q L => exact (hL q List.mem_cons_self).elim
  subst hLn
  rw [List.append_nil] at X'
  obtain ⟨t2, a1, b1⟩ := kk r hp T' (by rw [e1, hh, h0]) X'
  exact ⟨t2, st t2 a1, b1⟩
theorem sd_wv {post : Unit → Prop} {a : Array Value} {pc : Nat} {ls : Array Slot} {st0 rest : List Value} (hr : va_Run p l e R s m args below meth c H locs cells slots 0 0 (F0 m pc ls st0) rest (va_Sv post a) (fun _ => False)) (kk : W p l e R s m args below meth c H locs cells slots Q (F0 m (pc + 3) ls rest)) : W p l e R s m args below meth c H locs cells slots Q (F0 m pc ls st0) := by
  intro T hT X
  obtain ⟨v, st₀, t, T', L, h0, X', hL, e1, e2, ⟨hv, hp, hh⟩, st⟩ := hr T hT X
  cases hv
  have hLn : L = [] := by
    cases L with
    | nil => rfl
    | cons q L => exact (hL q List.mem_cons_self).elim
  subst hLn
  rw [List.append_nil] at X'
  obtain ⟨t2, a1, b1⟩ := kk T' (by rw [e1, hh, h0]) X'
  exact ⟨t2, st t2 a1, b1⟩
end SdStr
set_option maxRecDepth 20000 in
theorem sd_j_co (l : Launch) (adK adV : Nat → Nat) (A : Nat → Prop) : Met l yJ0_coder_7d493 (sd_wj yJ0_coder_7d493 cJ0_coder_7d493 1 (some .byte)) { frames := 0, cells := 0, slots := 0, locals := 0 } (sd_Sp adK adV A [.ref (adK 0)]) (vp_Si (fun r => r = 0)) 0 0 (fun _ => False) := by
  refine Met.ofW (cc := cJ0_coder_7d493) (maxL := 1) (ret := some .byte) (by decide) rfl ?_
  intro p e s m args below meth c s₁ B hml hv
  obtain ⟨rfl, hSt⟩ := hv
  have hx := B.exec
  have hb := B.bytes
  have hr := B.returns
  have hts0 := atoms_spec (ws := sd_wj yJ0_coder_7d493 cJ0_coder_7d493 1 (some .byte)) B.pre
  have hts : ∀ w ∈ sd_G, w.before [Value.ref (adK 0)].toArray s = true := fun w hw => hts0 w (List.mem_cons_of_mem _ hw)
  have hown : s.vm.findClass RJ0 = some m.cls := findClass_of_methodNamed B.named
  have hlocks := B.notSynchronized
  have hS : va_S A s.heap s.heap [] := va_S.rf
  have hl := lv_entry ([.ref (adK 0)]) (n := 1) (Nat.le_of_ble_eq_true rfl)
  rw [lg_entry_eq]
  generalize (lg_sl ([.ref (adK 0)]) ++ List.replicate (1 - (lg_sl ([.ref (adK 0)])).length) Slot.unset).toArray = ls at hl ⊢
  have hl : lv_has ls 1 [(0, .ref (adK 0))] := hl
  refine va_gets (ref := "java/lang/String") hx hb hSt.2.2.1 hS hown (hts _ (sd_Gi (List.mem_of_getElem? (i := 522) rfl) rfl)) (fun _ h => h) dj_co_0 ?_
  refine lv_if_eq (tgt := 13) hx hb dj_co_3 (by decide) (fun h => absurd h (by decide)) (fun _ => ?_)
  refine lv_aload_n hx hb dj_co_6 rfl (lv_at hl 0 rfl) ?_
  refine vk_getf (ref := "java/lang/String") (v := .int 0) hx hb (hSt.1.1 0 (by decide)).2.1 hS hown (hts _ (sd_Gi (List.mem_of_getElem? (i := 1670) rfl) rfl)) (fun _ h => h) dj_co_7 ?_
  refine lv_goto (tgt := 14) hx hb dj_co_10 (by decide) ?_
  exact W.zret (ty := .byte) hx hb hr rfl (fun t ht hW => ⟨0, rfl, rfl, ht⟩) (fun q hq => absurd hq List.not_mem_nil) dj_co_14
set_option maxRecDepth 20000 in
theorem sd_j_is (l : Launch) (adK adV : Nat → Nat) (A : Nat → Prop) : Met l yJ0_isLatin1_aae02 (sd_wj yJ0_isLatin1_aae02 cJ0_isLatin1_aae02 1 (some .boolean)) { frames := 0, cells := 0, slots := 0, locals := 0 } (sd_Sp adK adV A [.ref (adK 0)]) (vp_Si (fun r => r = 1)) 0 0 (fun _ => False) := by
  refine Met.ofW (cc := cJ0_isLatin1_aae02) (maxL := 1) (ret := some .boolean) (by decide) rfl ?_
  intro p e s m args below meth c s₁ B hml hv
  obtain ⟨rfl, hSt⟩ := hv
  have hx := B.exec
  have hb := B.bytes
  have hr := B.returns
  have hts0 := atoms_spec (ws := sd_wj yJ0_isLatin1_aae02 cJ0_isLatin1_aae02 1 (some .boolean)) B.pre
  have hts : ∀ w ∈ sd_G, w.before [Value.ref (adK 0)].toArray s = true := fun w hw => hts0 w (List.mem_cons_of_mem _ hw)
  have hown : s.vm.findClass RJ0 = some m.cls := findClass_of_methodNamed B.named
  have hlocks := B.notSynchronized
  have hS : va_S A s.heap s.heap [] := va_S.rf
  have hl := lv_entry ([.ref (adK 0)]) (n := 1) (Nat.le_of_ble_eq_true rfl)
  rw [lg_entry_eq]
  generalize (lg_sl ([.ref (adK 0)]) ++ List.replicate (1 - (lg_sl ([.ref (adK 0)])).length) Slot.unset).toArray = ls at hl ⊢
  have hl : lv_has ls 1 [(0, .ref (adK 0))] := hl
  refine va_gets (ref := "java/lang/String") hx hb hSt.2.2.1 hS hown (hts _ (sd_Gi (List.mem_of_getElem? (i := 522) rfl) rfl)) (fun _ h => h) dj_is_0 ?_
  refine lv_if_eq (tgt := 17) hx hb dj_is_3 (by decide) (fun h => absurd h (by decide)) (fun _ => ?_)
  refine lv_aload_n hx hb dj_is_6 rfl (lv_at hl 0 rfl) ?_
  refine vk_getf (ref := "java/lang/String") (v := .int 0) hx hb (hSt.1.1 0 (by decide)).2.1 hS hown (hts _ (sd_Gi (List.mem_of_getElem? (i := 1670) rfl) rfl)) (fun _ h => h) dj_is_7 ?_
  refine lv_if_ne (tgt := 17) hx hb dj_is_10 (by decide) (fun h => absurd rfl h) (fun _ => ?_)
  refine lv_iconst (v := 1) hx hb dj_is_13 (by decide) ?_
  refine lv_goto (tgt := 18) hx hb dj_is_14 (by decide) ?_
  exact W.zret (ty := .boolean) hx hb hr (by decide) (fun t ht hW => ⟨1, rfl, rfl, ht⟩) (fun q hq => absurd hq List.not_mem_nil) dj_is_18
set_option maxRecDepth 20000 in
theorem sd_j_ln (l : Launch) (adK adV : Nat → Nat) (A : Nat → Prop) : Met l yJ0_length_8abf5 (sd_wj yJ0_length_8abf5 cJ0_length_8abf5 1 (some .int)) { frames := 1, cells := 0, slots := 0, locals := 20 } (sd_Sp adK adV A [.ref (adK 0)]) (vp_Si (fun r => r = 92)) 0 0 (fun _ => False) := by
  refine Met.ofW (cc := cJ0_length_8abf5) (maxL := 1) (ret := some .int) (by decide) rfl ?_
  intro p e s m args below meth c s₁ B hml hv
  obtain ⟨rfl, hSt⟩ := hv
  have hx := B.exec
  have hb := B.bytes
  have hr := B.returns
  have hts0 := atoms_spec (ws := sd_wj yJ0_length_8abf5 cJ0_length_8abf5 1 (some .int)) B.pre
  have hts : ∀ w ∈ sd_G, w.before [Value.ref (adK 0)].toArray s = true := fun w hw => hts0 w (List.mem_cons_of_mem _ hw)
  have hown : s.vm.findClass RJ0 = some m.cls := findClass_of_methodNamed B.named
  have hlocks := B.notSynchronized
  have hS : va_S A s.heap s.heap [] := va_S.rf
  have hl := lv_entry ([.ref (adK 0)]) (n := 1) (Nat.le_of_ble_eq_true rfl)
  rw [lg_entry_eq]
  generalize (lg_sl ([.ref (adK 0)]) ++ List.replicate (1 - (lg_sl ([.ref (adK 0)])).length) Slot.unset).toArray = ls at hl ⊢
  have hl : lv_has ls 1 [(0, .ref (adK 0))] := hl
  refine lv_aload_n hx hb dj_ln_0 rfl (lv_at hl 0 rfl) ?_
  refine vk_getf (ref := "java/lang/String") (v := .ref (adV 0)) hx hb (hSt.1.1 0 (by decide)).2.2.1 hS hown (hts _ (sd_Gi (List.mem_of_getElem? (i := 1669) rfl) rfl)) (fun _ h => h) dj_ln_1 ?_
  refine va_tlen (v := 92) hx hb (hSt.1.1 0 (by decide)).2.2.2 hS rfl dj_ln_4 ?_
  refine lv_aload_n hx hb dj_ln_5 rfl (lv_at hl 0 rfl) ?_
  refine sd_wc (va_runV (C := RJ0) (As := []) (rest := [.int 92]) (n := 0) ⟨hx, hb, hml, hown, hts⟩ (sd_j_co l adK adV A) ⟨callB_of _ hts (sd_wjg (sd_Gi (List.mem_of_getElem? (i := 521) rfl) rfl)) rfl rfl rfl (hts _ (sd_Gi (List.mem_of_getElem? (i := 127) rfl) rfl)) (hts _ (sd_Gi (List.mem_of_getElem? (i := 518) rfl) rfl)) (by decide +kernel) ⟨Nat.le_of_ble_eq_true rfl, Nat.le_of_ble_eq_true rfl⟩, hts _ (sd_Gi (List.mem_of_getElem? (i := 519) rfl) rfl), hts _ (sd_Gi (List.mem_of_getElem? (i := 520) rfl) rfl)⟩ ⟨sd_Sp_b, vk_recv hSt.1 (by decide) hS, sd_Sp_u hSt hS⟩ rfl rfl hl.1 rfl (lv_room (Nat.le_of_ble_eq_true rfl)) dj_ln_6 ⟨Nat.zero_le _, Nat.zero_le _⟩) (fun r hr0 => ?_)
  subst hr0
  refine lv_ishr hx hb dj_ln_9 ?_
  exact W.iret (v := (92 : Int32) >>> ((0 : Int32) &&& 31)) hx hb hr (fun t ht hW => ⟨_, rfl, by decide, ht⟩) (fun q hq => absurd hq List.not_mem_nil) dj_ln_10
set_option maxRecDepth 20000 in
theorem sd_j_pc (l : Launch) (i n : Int32) (fv : Value) (hf : fv = .null ∨ ∃ q, fv = .ref q) (hi : 0 ≤ i.toInt ∧ i.toInt < n.toInt) : Met l yJ3_checkIndex_8e157 (sd_wj yJ3_checkIndex_8e157 cJ3_checkIndex_8e157 3 (some .int)) { frames := 0, cells := 0, slots := 0, locals := 0 } (va_Pc [.int i, .int n, fv] (fun _ => True)) (vp_Si (fun r => r = i)) 0 0 (fun _ => False) := by
  refine Met.ofW (cc := cJ3_checkIndex_8e157) (maxL := 3) (ret := some .int) (by decide) rfl ?_
  intro p e s m args below meth c s₁ B hml hv
  obtain ⟨rfl, -⟩ := hv
  have hx := B.exec
  have hb := B.bytes
  have hr := B.returns
  have hlocks := B.notSynchronized
  have hc : fv.category = 1 := by rcases hf with rfl | ⟨q, rfl⟩ <;> rfl
  have hlen : (lg_sl ([.int i, .int n, fv])).length ≤ 3 := by rcases hf with rfl | ⟨q, rfl⟩ <;> exact Nat.le_of_ble_eq_true rfl
  have hl := lv_entry ([.int i, .int n, fv]) (n := 3) hlen
  rw [lg_entry_eq]
  generalize (lg_sl ([.int i, .int n, fv]) ++ List.replicate (3 - (lg_sl ([.int i, .int n, fv])).length) Slot.unset).toArray = ls at hl ⊢
  have hl : lv_has ls 3 [(0, .int i), (1, .int n), (2, fv)] := hl
  refine lv_iload_n hx hb dj_pc_0 rfl (lv_at hl 0 rfl) ?_
  refine lv_if_lt (tgt := 9) hx hb dj_pc_1 (by decide) (fun h => absurd h (sd_nneg hi.1)) (fun _ => ?_)
  refine lv_iload_n hx hb dj_pc_4 rfl (lv_at hl 0 rfl) ?_
  refine lv_iload_n hx hb dj_pc_5 rfl (lv_at hl 1 rfl) ?_
  refine lv_icmp_lt (tgt := 16) hx hb dj_pc_6 (by decide) (fun _ => ?_) (fun h => absurd (Int32.lt_iff_toInt_lt.mpr hi.2) h)
  refine lv_iload_n hx hb dj_pc_16 rfl (lv_at hl 0 rfl) ?_
  exact W.iret hx hb hr (fun t ht hW => ⟨_, rfl, rfl, ht⟩) (fun q hq => absurd hq List.not_mem_nil) dj_pc_17
set_option maxRecDepth 20000 in
theorem sd_j_ck (l : Launch) (adK adV : Nat → Nat) (A : Nat → Prop) (i n : Int32) (hi : 0 ≤ i.toInt ∧ i.toInt < n.toInt) : Met l yJ0_checkIndex_df160 (sd_wj yJ0_checkIndex_df160 cJ0_checkIndex_df160 2 none) { frames := 1, cells := 0, slots := 0, locals := 22 } (sd_Sp adK adV A [.int i, .int n]) (va_Sv (fun _ => True)) 0 0 (fun _ => False) := by
  refine Met.ofW (cc := cJ0_checkIndex_df160) (maxL := 2) (ret := none) (by decide) rfl ?_
  intro p e s m args below meth c s₁ B hml hv
  obtain ⟨rfl, hSt⟩ := hv
  have hx := B.exec
  have hb := B.bytes
  have hr := B.returns
  have hts0 := atoms_spec (ws := sd_wj yJ0_checkIndex_df160 cJ0_checkIndex_df160 2 none) B.pre
  have hts : ∀ w ∈ sd_G, w.before [Value.int i, Value.int n].toArray s = true := fun w hw => hts0 w (List.mem_cons_of_mem _ hw)
  have hown : s.vm.findClass RJ0 = some m.cls := findClass_of_methodNamed B.named
  have hlocks := B.notSynchronized
  have hS : va_S A s.heap s.heap [] := va_S.rf
  have hl := lv_entry ([.int i, .int n]) (n := 2) (Nat.le_of_ble_eq_true rfl)
  rw [lg_entry_eq]
  generalize (lg_sl ([.int i, .int n]) ++ List.replicate (2 - (lg_sl ([.int i, .int n])).length) Slot.unset).toArray = ls at hl ⊢
  have hl : lv_has ls 2 [(0, .int i), (1, .int n)] := hl
  refine lv_iload_n hx hb dj_ck_0 rfl (lv_at hl 0 rfl) ?_
  refine lv_iload_n hx hb dj_ck_1 rfl (lv_at hl 1 rfl) ?_
  have key : ∀ fv : Value, (fv = .null ∨ ∃ q, fv = .ref q) → W p l e (headSpec (sd_wj yJ0_checkIndex_df160 cJ0_checkIndex_df160 2 none) { frames := 1, cells := 0, slots := 0, locals := 22 }).room s m [Value.int i, Value.int n].toArray below meth c s.heap [] 0 0 (MQ below (va_Sv (fun _ => True)) [Value.int i, Value.int n].toArray s 0 0 (fun _ => False)) (F0 m 5 ls [fv, .int n, .int i]) := by
    intro fv hf
    refine sd_wc (va_runS (As := [.int i, .int n, fv]) (rest := []) (n := 3) ⟨hx, hb, hml, hown, hts⟩ (sd_j_pc l i n fv hf hi) ⟨callB_of _ hts (sd_wjg (sd_Gi (List.mem_of_getElem? (i := 542) rfl) rfl)) rfl rfl rfl (hts _ (sd_Gi (List.mem_of_getElem? (i := 129) rfl) rfl)) (hts _ (sd_Gi (List.mem_of_getElem? (i := 540) rfl) rfl)) (by decide +kernel) ⟨Nat.le_of_ble_eq_true rfl, Nat.le_of_ble_eq_true rfl⟩, hts _ (sd_Gi (List.mem_of_getElem? (i := 541) rfl) rfl)⟩ ⟨fun a U g mk q => ⟨q.1, trivial⟩, fun U hU hW => ⟨rfl, trivial⟩⟩ rfl rfl hl.1 rfl (lv_room (Nat.le_of_ble_eq_true rfl)) dj_ck_5 ⟨Nat.zero_le _, Nat.zero_le _⟩) (fun r hr0 => ?_)
    refine lv_pop hx hb dj_ck_8 rfl ?_
    exact W.vret hx hb hr (fun t ht hW => ⟨rfl, trivial, ht⟩) (fun q hq => absurd hq List.not_mem_nil) dj_ck_9
  rcases hSt.2.2.2 with h | ⟨q, h⟩
  · exact va_gets (ref := "jdk/internal/util/Preconditions") hx hb h hS hown (hts _ (sd_Gi (List.mem_of_getElem? (i := 538) rfl) rfl)) (fun _ h => h) dj_ck_2 (key _ (Or.inl rfl))
  · exact va_gets (ref := "jdk/internal/util/Preconditions") hx hb h hS hown (hts _ (sd_Gi (List.mem_of_getElem? (i := 538) rfl) rfl)) (fun _ h => h) dj_ck_2 (key _ (Or.inr ⟨q, rfl⟩))
def sd_chv (i : Nat) : Int32 := ((sd_wb.getD i 0 &&& 255).toUInt32 % 65536).toInt32
theorem sd_ch_chk : (List.range 92).all (fun i => decide ((sd_chv i).toInt = sd_word i) && decide (narrow .char (.int (sd_chv i)) = .int (sd_chv i))) = true := by decide +kernel
theorem sd_chw {i : Int32} (hi : 0 ≤ i.toInt ∧ i.toInt < 92) : (sd_chv i.toInt.toNat).toInt = sd_word i.toInt.toNat := by
  have h := List.all_eq_true.mp sd_ch_chk i.toInt.toNat (List.mem_range.mpr (by omega))
  rw [Bool.and_eq_true] at h
  exact of_decide_eq_true h.1
theorem sd_chn {i : Int32} (hi : 0 ≤ i.toInt ∧ i.toInt < 92) : narrow .char (.int (sd_chv i.toInt.toNat)) = .int (sd_chv i.toInt.toNat) := by
  have h := List.all_eq_true.mp sd_ch_chk i.toInt.toNat (List.mem_range.mpr (by omega))
  rw [Bool.and_eq_true] at h
  exact of_decide_eq_true h.2
set_option maxRecDepth 20000 in
theorem sd_j_la (l : Launch) (adK adV : Nat → Nat) (A : Nat → Prop) (i : Int32) (hi : 0 ≤ i.toInt ∧ i.toInt < 92) : Met l yJ1_charAt_3b067 (sd_wj yJ1_charAt_3b067 cJ1_charAt_3b067 2 (some .char)) { frames := 2, cells := 0, slots := 0, locals := 43 } (sd_Sp adK adV A [.ref (adV 0), .int i]) (vp_Si (fun r => r = sd_chv i.toInt.toNat)) 0 0 (fun _ => False) := by
  refine Met.ofW (cc := cJ1_charAt_3b067) (maxL := 2) (ret := some .char) (by decide) rfl ?_
  intro p e s m args below meth c s₁ B hml hv
  obtain ⟨rfl, hSt⟩ := hv
  have hx := B.exec
  have hb := B.bytes
  have hr := B.returns
  have hts0 := atoms_spec (ws := sd_wj yJ1_charAt_3b067 cJ1_charAt_3b067 2 (some .char)) B.pre
  have hts : ∀ w ∈ sd_G, w.before [Value.ref (adV 0), Value.int i].toArray s = true := fun w hw => hts0 w (List.mem_cons_of_mem _ hw)
  have hown : s.vm.findClass RJ1 = some m.cls := findClass_of_methodNamed B.named
  have hlocks := B.notSynchronized
  have hS : va_S A s.heap s.heap [] := va_S.rf
  have hl := lv_entry ([.ref (adV 0), .int i]) (n := 2) (Nat.le_of_ble_eq_true rfl)
  rw [lg_entry_eq]
  generalize (lg_sl ([.ref (adV 0), .int i]) ++ List.replicate (2 - (lg_sl ([.ref (adV 0), .int i])).length) Slot.unset).toArray = ls at hl ⊢
  have hl : lv_has ls 2 [(0, .ref (adV 0)), (1, .int i)] := hl
  refine lv_iload_n hx hb dj_la_0 rfl (lv_at hl 1 rfl) ?_
  refine lv_aload_n hx hb dj_la_1 rfl (lv_at hl 0 rfl) ?_
  refine va_tlen (v := 92) hx hb (hSt.1.1 0 (by decide)).2.2.2 hS rfl dj_la_2 ?_
  refine sd_wv (va_runS (As := [.int i, .int 92]) (rest := []) (n := 2) ⟨hx, hb, hml, hown, hts⟩ (sd_j_ck l adK adV A i 92 hi) ⟨callB_of _ hts (sd_wjg (sd_Gi (List.mem_of_getElem? (i := 537) rfl) rfl)) rfl rfl rfl (hts _ (sd_Gi (List.mem_of_getElem? (i := 127) rfl) rfl)) (hts _ (sd_Gi (List.mem_of_getElem? (i := 535) rfl) rfl)) (by decide +kernel) ⟨Nat.le_of_ble_eq_true rfl, Nat.le_of_ble_eq_true rfl⟩, hts _ (sd_Gi (List.mem_of_getElem? (i := 536) rfl) rfl)⟩ ⟨sd_Sp_b, sd_Sp_u hSt hS⟩ rfl rfl hl.1 rfl (lv_room (Nat.le_of_ble_eq_true rfl)) dj_la_3 ⟨Nat.zero_le _, Nat.zero_le _⟩) ?_
  refine lv_aload_n hx hb dj_la_6 rfl (lv_at hl 0 rfl) ?_
  refine lv_iload_n hx hb dj_la_7 rfl (lv_at hl 1 rfl) ?_
  refine va_tb (v := .int (sd_wb.getD i.toInt.toNat 0)) hx hb (hSt.1.1 0 (by decide)).2.2.2 hS (sd_vpin (decide_eq_true hi)) rfl dj_la_8 ?_
  refine lv_sipush (v := 255) hx hb dj_la_9 (by decide) ?_
  refine lv_iand hx hb dj_la_12 ?_
  refine lv_i2c hx hb dj_la_13 rfl ?_
  exact W.zret (ty := .char) hx hb hr (sd_chn hi) (fun t ht hW => ⟨_, rfl, rfl, ht⟩) (fun q hq => absurd hq List.not_mem_nil) dj_la_14
set_option maxRecDepth 20000 in
theorem sd_j_ca (l : Launch) (adK adV : Nat → Nat) (A : Nat → Prop) (i : Int32) (hi : 0 ≤ i.toInt ∧ i.toInt < 92) : Met l yJ0_charAt_5068e (sd_wj yJ0_charAt_5068e cJ0_charAt_5068e 2 (some .char)) { frames := 3, cells := 0, slots := 0, locals := 64 } (sd_Sp adK adV A [.ref (adK 0), .int i]) (vp_Si (fun r => r = sd_chv i.toInt.toNat)) 0 0 (fun _ => False) := by
  refine Met.ofW (cc := cJ0_charAt_5068e) (maxL := 2) (ret := some .char) (by decide) rfl ?_
  intro p e s m args below meth c s₁ B hml hv
  obtain ⟨rfl, hSt⟩ := hv
  have hx := B.exec
  have hb := B.bytes
  have hr := B.returns
  have hts0 := atoms_spec (ws := sd_wj yJ0_charAt_5068e cJ0_charAt_5068e 2 (some .char)) B.pre
  have hts : ∀ w ∈ sd_G, w.before [Value.ref (adK 0), Value.int i].toArray s = true := fun w hw => hts0 w (List.mem_cons_of_mem _ hw)
  have hown : s.vm.findClass RJ0 = some m.cls := findClass_of_methodNamed B.named
  have hlocks := B.notSynchronized
  have hS : va_S A s.heap s.heap [] := va_S.rf
  have hl := lv_entry ([.ref (adK 0), .int i]) (n := 2) (Nat.le_of_ble_eq_true rfl)
  rw [lg_entry_eq]
  generalize (lg_sl ([.ref (adK 0), .int i]) ++ List.replicate (2 - (lg_sl ([.ref (adK 0), .int i])).length) Slot.unset).toArray = ls at hl ⊢
  have hl : lv_has ls 2 [(0, .ref (adK 0)), (1, .int i)] := hl
  refine lv_aload_n hx hb dj_ca_0 rfl (lv_at hl 0 rfl) ?_
  refine sd_wc (va_runV (C := RJ0) (As := []) (rest := []) (n := 0) ⟨hx, hb, hml, hown, hts⟩ (sd_j_is l adK adV A) ⟨callB_of _ hts (sd_wjg (sd_Gi (List.mem_of_getElem? (i := 531) rfl) rfl)) rfl rfl rfl (hts _ (sd_Gi (List.mem_of_getElem? (i := 127) rfl) rfl)) (hts _ (sd_Gi (List.mem_of_getElem? (i := 528) rfl) rfl)) (by decide +kernel) ⟨Nat.le_of_ble_eq_true rfl, Nat.le_of_ble_eq_true rfl⟩, hts _ (sd_Gi (List.mem_of_getElem? (i := 529) rfl) rfl), hts _ (sd_Gi (List.mem_of_getElem? (i := 530) rfl) rfl)⟩ ⟨sd_Sp_b, vk_recv hSt.1 (by decide) hS, sd_Sp_u hSt hS⟩ rfl rfl hl.1 rfl (lv_room (Nat.le_of_ble_eq_true rfl)) dj_ca_1 ⟨Nat.zero_le _, Nat.zero_le _⟩) (fun r hr0 => ?_)
  subst hr0
  refine lv_if_eq (tgt := 16) hx hb dj_ca_4 (by decide) (fun h => absurd h (by decide)) (fun _ => ?_)
  refine lv_aload_n hx hb dj_ca_7 rfl (lv_at hl 0 rfl) ?_
  refine vk_getf (ref := "java/lang/String") (v := .ref (adV 0)) hx hb (hSt.1.1 0 (by decide)).2.2.1 hS hown (hts _ (sd_Gi (List.mem_of_getElem? (i := 1669) rfl) rfl)) (fun _ h => h) dj_ca_8 ?_
  refine lv_iload_n hx hb dj_ca_11 rfl (lv_at hl 1 rfl) ?_
  refine sd_wc (va_runS (As := [.ref (adV 0), .int i]) (rest := []) (n := 2) ⟨hx, hb, hml, hown, hts⟩ (sd_j_la l adK adV A i hi) ⟨callB_of _ hts (sd_wjg (sd_Gi (List.mem_of_getElem? (i := 534) rfl) rfl)) rfl rfl rfl (hts _ (sd_Gi (List.mem_of_getElem? (i := 128) rfl) rfl)) (hts _ (sd_Gi (List.mem_of_getElem? (i := 532) rfl) rfl)) (by decide +kernel) ⟨Nat.le_of_ble_eq_true rfl, Nat.le_of_ble_eq_true rfl⟩, hts _ (sd_Gi (List.mem_of_getElem? (i := 533) rfl) rfl)⟩ ⟨sd_Sp_b, sd_Sp_u hSt hS⟩ rfl rfl hl.1 rfl (lv_room (Nat.le_of_ble_eq_true rfl)) dj_ca_12 ⟨Nat.zero_le _, Nat.zero_le _⟩) (fun r hr0 => ?_)
  subst hr0
  exact W.zret (ty := .char) hx hb hr (sd_chn hi) (fun t ht hW => ⟨_, rfl, rfl, ht⟩) (fun q hq => absurd hq List.not_mem_nil) dj_ca_15
section SdSim
variable {p : Program} {l : Launch} {e : Env} {R : Room} {s : State} {m : MethodId} {args : Array Value} {below : List Frame} {meth : Method} {c : Code} {D : va_G} {A : Nat → Prop} {as0 : List Nat} {Q : State → Prop} {F F1 : sd_F}
set_option maxRecDepth 20000 in
/-- the text constant's uses, walked -/
theorem sd_K_Y {q : sd_MI} (hq : sd_mok q) (hx : p.tables.exec = Jvm.exec) (hb : c.code = q.2.1) (hml : c.maxLocals = q.2.2.1) (hown : s.vm.findClass (sd_cn q.2.2.2.2.1) = some m.cls) (hts : ∀ w ∈ sd_G, w.before args s = true) (hSS : sd_SS A s s.heap) (hf : 4 ≤ R.frames) (hlo : 128 ≤ R.locals) (hY : sd_Y q F = some F1) : sd_K p l e R s m args below meth c D A as0 q.2.2.1 Q F F1 := by
  have hdec : ∀ (k : Nat) (ins : Jvm.ClassFile.Instr) (len : Nat), q.2.2.2.2.2.2.lookup k = some (ins, len) → decode q.2.1 k = .ok (ins, len) := fun k ins len h => hq.2.2.2.2.2 (k, ins, len) (sd_lk_mem h)
  obtain ⟨adK, adV, hSt⟩ := hSS
  unfold sd_Y at hY
  obtain ⟨ho, hY⟩ := sd_if hY
  rw [ho] at hown
  have hown : s.vm.findClass RX7 = some m.cls := hown
  split at hY
  · rename_i h1
    split at hY
    · rename_i h2
      obtain ⟨h8, hY⟩ := sd_if hY
      cases hY
      refine ⟨Nat.le_refl _, Nat.le_refl _, fun hc hs hT ws H locs ls cst lv hW hP hD hS hE hst hlv hls => ?_⟩
      have hsum := sd_RL_sum hst
      refine va_ldcS hx hb hown hSt.2.1 (hdec _ _ _ h1) ?_
      refine sd_wc (va_runV (C := RJ0) (As := []) (rest := cst) (n := 0) ⟨hx, hb, hml, hown, hts⟩ (sd_j_ln l adK adV A) ⟨callB_of _ hts (sd_wjg (sd_Gi (List.mem_of_getElem? (i := 517) rfl) rfl)) rfl rfl rfl (hts _ (sd_Gi (List.mem_of_getElem? (i := 127) rfl) rfl)) (hts _ (sd_Gi (List.mem_of_getElem? (i := 514) rfl) rfl)) (by decide +kernel) ⟨by show 1 + 1 ≤ R.frames; omega, by show 8 + (1 + 11) + 20 ≤ R.locals; omega⟩, hts _ (sd_Gi (List.mem_of_getElem? (i := 515) rfl) rfl), hts _ (sd_Gi (List.mem_of_getElem? (i := 516) rfl) rfl)⟩ ⟨sd_Sp_b, vk_recv hSt.1 (by decide) hS, sd_Sp_u hSt hS⟩ rfl rfl hls.1 rfl (lv_room (by omega)) (hdec _ _ _ h2) ⟨by omega, by omega⟩) (fun r hr0 => ?_)
      subst hr0
      exact hT ws H locs ls _ lv hW hP hD hS hE ⟨rfl, hst⟩ hlv hls
    · rename_i i h2
      split at hY
      · rename_i z h3 hl
        obtain ⟨⟨h8, hz⟩, hY⟩ := sd_if hY
        cases hY
        refine ⟨Nat.le_refl _, Nat.le_refl _, fun hc hs hT ws H locs ls cst lv hW hP hD hS hE hst hlv hls => ?_⟩
        have hsum := sd_RL_sum hst
        obtain ⟨k, w, g1, g2⟩ := sd_RV_get hlv hl
        cases w <;> first | exact g2.elim | skip
        rename_i cx
        have hcx : cx.toInt = z := g2
        subst hcx
        refine va_ldcS hx hb hown hSt.2.1 (hdec _ _ _ h1) ?_
        refine lv_iload hx hb (hdec _ _ _ h2) (lv_at hls k g1) ?_
        refine sd_wc (va_runV (C := RJ0) (As := [.int cx]) (rest := cst) (n := 1) ⟨hx, hb, hml, hown, hts⟩ (sd_j_ca l adK adV A cx hz) ⟨callB_of _ hts (sd_wjg (sd_Gi (List.mem_of_getElem? (i := 527) rfl) rfl)) rfl rfl rfl (hts _ (sd_Gi (List.mem_of_getElem? (i := 127) rfl) rfl)) (hts _ (sd_Gi (List.mem_of_getElem? (i := 524) rfl) rfl)) (by decide +kernel) ⟨by show 3 + 1 ≤ R.frames; omega, by show 8 + (2 + 11) + 64 ≤ R.locals; omega⟩, hts _ (sd_Gi (List.mem_of_getElem? (i := 525) rfl) rfl), hts _ (sd_Gi (List.mem_of_getElem? (i := 526) rfl) rfl)⟩ ⟨sd_Sp_b, vk_recv hSt.1 (by decide) hS, sd_Sp_u hSt hS⟩ rfl rfl hls.1 rfl (lv_room (by omega)) (hdec _ _ _ h3) ⟨by omega, by omega⟩) (fun r hr0 => ?_)
        subst hr0
        exact hT ws H locs ls _ lv hW hP hD hS hE ⟨sd_chw hz, hst⟩ hlv hls
      · cases hY
    · cases hY
  · cases hY
end SdSim
