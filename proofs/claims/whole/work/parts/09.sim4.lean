/-! new cells, and the calls that are no methods of ours -/
section SdSim
variable {p : Program} {l : Launch} {e : Env} {R : Room} {s : State} {m : MethodId} {args : Array Value} {below : List Frame} {meth : Method} {c : Code} {D : va_G} {A : Nat → Prop} {as0 : List Nat} {nL : Nat} {Q : State → Prop} {cc : ByteArray} {o : Nat} {ini : Bool} {F F1 : sd_F}
theorem sd_nneg {x : Int32} (h : 0 ≤ x.toInt) : ¬ x < 0 := by
  intro h1
  have := Int32.lt_iff_toInt_lt.mp h1
  rw [Int32.toInt_zero] at this
  omega
/-- behind a new cell -/
theorem sd_push {n2 sl : Nat} {r : List sd_V} {en : sd_E} (h : sd_nc F n2 r sl en = some (.inl F1)) (hT : sd_T p l e R s m args below meth c D A as0 nL Q F1) {ws : va_W} {H1 : Heap} {locs : List Loc} {ls : Array Slot} {cr : List Value} {lv : List (Nat × Value)} {q : Nat} {e2 : va_E}
    (hW : sd_RW s F.2.2.2.1 ws) (hE : ∃ ex, ws.map (fun q => q.1) = as0 ++ ex) (hr : sd_RL (ws.map (fun q => q.1)) r cr) (hlv : sd_RV (ws.map (fun q => q.1)) F.2.1 lv) (hls : lv_has ls nL lv)
    (hc : sd_RC s (ws.map (fun q => q.1)) en e2) (hP1 : va_P D vwCl (ws ++ [(q, e2)]) H1) (hD1 : va_D A (ws ++ [(q, e2)])) (hS1 : va_S A s.heap H1 locs) : W p l e R s m args below meth c H1 locs (F.2.2.2.2.1 + 1) (F.2.2.2.2.2 + sl) Q (F0 m (F.1 + n2) ls (.ref q :: cr)) := by
  unfold sd_nc at h
  cases h
  refine hT (ws ++ [(q, e2)]) H1 locs ls _ lv (sd_RW_push hW hc) hP1 hD1 hS1 ?_ ⟨?_, ?_⟩ ?_ hls
  · obtain ⟨ex, hex⟩ := hE
    exact ⟨ex ++ [q], by rw [List.map_append, hex, List.append_assoc]; rfl⟩
  · show (List.map _ (ws ++ [(q, e2)]))[F.2.2.2.1.length]? = some q
    rw [List.map_append, ← hW.1, List.getElem?_append_right (by rw [List.length_map]; exact Nat.le_refl _)]
    simp
  · rw [List.map_append]; exact sd_RL_ext hr
  · rw [List.map_append]; exact sd_RV_ext hlv
theorem sd_nc_le {n2 sl : Nat} {r : List sd_V} {en : sd_E} (h : sd_nc F n2 r sl en = some (.inl F1)) : F1.2.2.2.2.1 = F.2.2.2.2.1 + 1 ∧ F1.2.2.2.2.2 = F.2.2.2.2.2 + sl := by
  unfold sd_nc at h
  cases h
  exact ⟨rfl, rfl⟩
theorem sd_K_newa (hx : p.tables.exec = Jvm.exec) (hb : c.code = cc) (hts : ∀ w ∈ sd_G, w.before args s = true) (hK : va_K D vwCl [] s) (hA : ∀ q, s.heap.size ≤ q → A q) {ak : ArrayType} (hd : decode cc F.1 = .ok (.newarray ak, 2)) (h : sd_newa F 2 (sd_at ak) = some (.inl F1)) : sd_K p l e R s m args below meth c D A as0 nL Q F F1 := by
  unfold sd_newa at h
  split at h
  · rename_i z r t d heq hat
    obtain ⟨⟨hz0, hz1⟩, h2⟩ := sd_if h
    clear h
    obtain ⟨e1, e2⟩ := sd_nc_le h2
    refine ⟨by omega, by omega, fun hc hs hT ws H locs ls cst lv hW hP hD hS hE hst hlv hls => ?_⟩
    rw [e1] at hc
    rw [e2] at hs
    rw [heq] at hst
    obtain ⟨cz, cr, rfl, hcz, hr⟩ := sd_RL_i hst
    subst hcz
    have hn := sd_nneg hz0
    cases ak <;> cases hat
    · refine va_newa (D := D) (atype := .boolean) (ty := .boolean) (a0 := (cz.toInt.toNat, .inl (fun _ => 0))) hx hb (hts _ sd_ws_ok.2.2.2.1) rfl hK hP hD hS hA (fun _ => rfl) hn rfl (by show _ * 1 ≤ _; omega) hc hs hd (fun q cA H1 hK1 hP1 hD1 hS1 => sd_push h2 hT hW hE hr hlv hls ?_ hP1 hD1 hS1)
      exact ⟨rfl, ⟨.boolean, hK1.2 0 _ rfl, Or.inr (Or.inr ⟨rfl, rfl⟩)⟩, fun _ => rfl⟩
    · refine va_newa (D := D) (atype := .byte) (ty := .byte) (a0 := (cz.toInt.toNat, .inl (fun _ => 0))) hx hb (hts _ sd_ws_ok.2.2.1) rfl hK hP hD hS hA (fun _ => rfl) hn rfl (by show _ * 1 ≤ _; omega) hc hs hd (fun q cA H1 hK1 hP1 hD1 hS1 => sd_push h2 hT hW hE hr hlv hls ?_ hP1 hD1 hS1)
      exact ⟨rfl, ⟨.byte, hK1.2 0 _ rfl, Or.inr (Or.inl ⟨rfl, rfl⟩)⟩, fun _ => rfl⟩
    · refine va_newa (D := D) (atype := .int) (ty := .int) (a0 := (cz.toInt.toNat, .inl (fun _ => 0))) hx hb (hts _ sd_ws_ok.1) rfl hK hP hD hS hA (fun _ => rfl) hn rfl (by show _ * 4 ≤ _; omega) hc hs hd (fun q cA H1 hK1 hP1 hD1 hS1 => sd_push h2 hT hW hE hr hlv hls ?_ hP1 hD1 hS1)
      exact ⟨rfl, ⟨.int, hK1.2 0 _ rfl, Or.inl ⟨rfl, rfl⟩⟩, fun _ => rfl⟩
    · refine va_newa (D := D) (atype := .long) (ty := .long) (a0 := (cz.toInt.toNat, .inr (.inl (fun _ => 0)))) hx hb (hts _ sd_ws_ok.2.1) rfl hK hP hD hS hA (fun _ => rfl) hn rfl (by show _ * 8 ≤ _; omega) hc hs hd (fun q cA H1 hK1 hP1 hD1 hS1 => sd_push h2 hT hW hE hr hlv hls ?_ hP1 hD1 hS1)
      exact ⟨rfl, hK1.2 0 _ rfl, rfl, fun _ => rfl⟩
  · cases h
theorem sd_K_anew (hN : sd_NW s) (hx : p.tables.exec = Jvm.exec) (hb : c.code = cc) (hown : s.vm.findClass (sd_cn o) = some m.cls) (hts : ∀ w ∈ sd_G, w.before args s = true) (hK : va_K D vwCl [] s) (hA : ∀ q, s.heap.size ≤ q → A q) {i : Nat} (hd : decode cc F.1 = .ok (.anewarray i, 3)) (h : sd_newa F 3 ((sd_alT.lookup (o, i)).map (fun ci => (4 + ci, .inr (.inr none)))) = some (.inl F1)) : sd_K p l e R s m args below meth c D A as0 nL Q F F1 := by
  unfold sd_newa at h
  split at h
  · rename_i z r t d heq hat
    obtain ⟨⟨hz0, hz1⟩, h2⟩ := sd_if h
    clear h
    cases hl : sd_alT.lookup (o, i) with
    | none => rw [hl] at hat; cases hat
    | some ci =>
      rw [hl] at hat
      cases hat
      obtain ⟨qc, hqc, hw1, hw2⟩ := sd_al_ok _ _ _ hl
      obtain ⟨e1, e2⟩ := sd_nc_le h2
      refine ⟨by omega, by omega, fun hc hs hT ws H locs ls cst lv hW hP hD hS hE hst hlv hls => ?_⟩
      rw [e1] at hc
      rw [e2] at hs
      rw [heq] at hst
      obtain ⟨cz, cr, rfl, hcz, hr⟩ := sd_RL_i hst
      subst hcz
      have hn := sd_nneg hz0
      refine va_newq (D := D) (C := qc.1) (N' := cz.toInt.toNat) hx hb hown (hts _ hw1) (hN.2 _ hw2) hK hP hD hS hA hn rfl (by omega) hc hs hd (fun q cA H1 hK1 hP1 hD1 hS1 => sd_push h2 hT hW hE hr hlv hls ?_ hP1 hD1 hS1)
      exact ⟨rfl, ⟨ci, qc, hqc, rfl, hK1.2 0 _ rfl⟩, fun _ => trivial⟩
  · cases h
theorem sd_K_new (hx : p.tables.exec = Jvm.exec) (hb : c.code = cc) (hown : s.vm.findClass (sd_cn o) = some m.cls) (hts : ∀ w ∈ sd_G, w.before args s = true) (hK : va_K D vwCl [] s) (hA : ∀ q, s.heap.size ≤ q → A q) {i : Nat} (hd : decode cc F.1 = .ok (.new i, 3)) (h : sd_new F (sd_nlT.lookup (o, i)) = some (.inl F1)) : sd_K p l e R s m args below meth c D A as0 nL Q F F1 := by
  unfold sd_new at h
  split at h
  · rename_i ci hl
    obtain ⟨hall, h2⟩ := sd_if h
    clear h
    obtain ⟨⟨C, T, N⟩, hqc, hw1, hw2, hw3⟩ := sd_nl_ok _ _ _ hl
    obtain ⟨hin, hty, hnm, hcn, hdecl⟩ := sd_cls_ok _ _ hqc
    have hN : sd_nf ci = N := by simp [sd_nf, hqc]
    rw [hN] at hall h2
    obtain ⟨e1, e2⟩ := sd_nc_le h2
    refine ⟨by omega, by omega, fun hc hs hT ws H locs ls cst lv hW hP hD hS hE hst hlv hls => ?_⟩
    rw [e1] at hc
    rw [e2] at hs
    refine va_new (D := D) (ci := ci) (fs := (List.range N).map (fun k => defaultValue (sd_ty ci k))) hx hb hts hin (sd_ty ci) hty hown (hts _ hw1) (hts _ hw2) (hts _ hw3) hK hP hD hS hA hqc (fun j hj => ?_) hc hs hd (fun q H1 hP1 hD1 hS1 => sd_push h2 hT hW hE hst hlv hls ?_ hP1 hD1 hS1)
    · simp [vp_V, hj]
    · exact ⟨rfl, sd_RL_map fun k hk => sd_dv_ok (List.all_eq_true.mp hall k hk)⟩
  · cases h
theorem sd_K_prim (hx : p.tables.exec = Jvm.exec) (hb : c.code = cc) (hml : c.maxLocals = nL) (hown : s.vm.findClass (sd_cn o) = some m.cls) (hts : ∀ w ∈ sd_G, w.before args s = true) (hK : va_K D vwCl [] s) (hf : 1 ≤ R.frames) (hlo : 64 ≤ R.locals) {i k j : Nat} (hl : sd_mlT.lookup (o, i) = some (k, j))
    (hd : (k = 4 ∧ decode cc F.1 = .ok (.invokespecial i, 3)) ∨ (5 ≤ k ∧ decode cc F.1 = .ok (.invokestatic i, 3))) (h : sd_prim F k = some (.inl F1)) : sd_K p l e R s m args below meth c D A as0 nL Q F F1 := by
  have hmw := sd_ml_ok _ _ _ _ hl
  unfold sd_prim at h
  split at h
  · rename_i a r heq
    obtain ⟨h8, h2⟩ := sd_if h
    clear h
    have hd : decode cc F.1 = .ok (.invokespecial i, 3) := by
      rcases hd with hd | hd
      · exact hd.2
      · omega
    unfold sd_n at h2
    cases h2
    refine ⟨Nat.le_refl _, Nat.le_refl _, fun hc hs hT ws H locs ls cst lv hW hP hD hS hE hst hlv hls => ?_⟩
    rw [heq] at hst
    obtain ⟨q, cr, rfl, hq, hr⟩ := sd_RL_r hst
    have hsum := sd_RL_sum hr
    refine W.objInit hx hb hown (hts _ hmw) (hts _ sd_ws_ok.2.2.2.2.1) (hts _ sd_ws_ok.2.2.2.2.2) rfl (by rw [hml]; exact hls.1) rfl hd hf ?_ ?_
    · have := lv_room (m := m) (pc := F.1) (ls := ls) (rest := cr) (st := cr) (by omega)
      show 2 * (F0 m F.1 ls cr).monitorRoom + _ + 12 ≤ R.locals
      omega
    · exact hT ws H locs ls cr lv hW hP hD hS hE hr hlv hls
  · rename_i y x r heq
    obtain ⟨h8, h2⟩ := sd_if h
    clear h
    have hd : decode cc F.1 = .ok (.invokestatic i, 3) := by
      rcases hd with hd | hd
      · omega
      · exact hd.2
    unfold sd_n at h2
    cases h2
    refine ⟨Nat.le_refl _, Nat.le_refl _, fun hc hs hT ws H locs ls cst lv hW hP hD hS hE hst hlv hls => ?_⟩
    rw [heq] at hst
    obtain ⟨cy, c1, rfl, hy, hs1⟩ := sd_RL_i hst
    obtain ⟨cx, cr, rfl, hx2, hr⟩ := sd_RL_i hs1
    subst hy; subst hx2
    have hsum := sd_RL_sum hr
    refine va_mmax hx hb (by rw [hml]; exact hls.1.symm) hown (hts _ hmw) (hts _ sd_ws_ok2.1) (hts _ sd_ws_ok2.2.2.2.2.1) (hts _ sd_ws_ok2.2.1) hf (by omega) hc hs hd ?_
    refine hT ws H locs ls _ lv hW hP hD hS hE ⟨?_, hr⟩ hlv hls
    show Int32.toInt _ = _
    rw [apply_ite Int32.toInt]
    simp only [Int32.lt_iff_toInt_lt]
  · rename_i y x r heq
    obtain ⟨h8, h2⟩ := sd_if h
    clear h
    have hd : decode cc F.1 = .ok (.invokestatic i, 3) := by
      rcases hd with hd | hd
      · omega
      · exact hd.2
    unfold sd_n at h2
    cases h2
    refine ⟨Nat.le_refl _, Nat.le_refl _, fun hc hs hT ws H locs ls cst lv hW hP hD hS hE hst hlv hls => ?_⟩
    rw [heq] at hst
    obtain ⟨cy, c1, rfl, hy, hs1⟩ := sd_RL_i hst
    obtain ⟨cx, cr, rfl, hx2, hr⟩ := sd_RL_i hs1
    subst hy; subst hx2
    have hsum := sd_RL_sum hr
    refine va_mmin hx hb (by rw [hml]; exact hls.1.symm) hown (hts _ hmw) (hts _ sd_ws_ok2.2.2.1) (hts _ sd_ws_ok2.2.2.2.2.1) (hts _ sd_ws_ok2.2.2.2.1) hf (by omega) hc hs hd ?_
    refine hT ws H locs ls _ lv hW hP hD hS hE ⟨?_, hr⟩ hlv hls
    show Int32.toInt _ = _
    rw [apply_ite Int32.toInt]
    simp only [Int32.lt_iff_toInt_lt]
  · rename_i n dp b sp a r heq
    split at h
    · rename_i n0 f n1 g he0 he1
      obtain ⟨⟨h8, hn0, hsp0, hdp0, hb0, hb1⟩, h2⟩ := sd_if h
      clear h
      have hd : decode cc F.1 = .ok (.invokestatic i, 3) := by
        rcases hd with hd | hd
        · omega
        · exact hd.2
      unfold sd_nm at h2
      cases h2
      refine ⟨Nat.le_refl _, Nat.le_refl _, fun hc hs hT ws H locs ls cst lv hW hP hD hS hE hst hlv hls => ?_⟩
      rw [heq] at hst
      obtain ⟨cn, c1, rfl, hcn, hs1⟩ := sd_RL_i hst
      obtain ⟨cdp, c2, rfl, hcdp, hs2⟩ := sd_RL_i hs1
      obtain ⟨qb, c3, rfl, hqb, hs3⟩ := sd_RL_r hs2
      obtain ⟨csp, c4, rfl, hcsp, hs4⟩ := sd_RL_i hs3
      obtain ⟨qa, cr, rfl, hqa, hr⟩ := sd_RL_r hs4
      subst hcn; subst hcdp; subst hcsp
      have hsum := sd_RL_sum hr
      obtain ⟨ea, hwa, hca⟩ := sd_RW_get hW he0 hqa
      obtain ⟨eb, hwb, hcb⟩ := sd_RW_get hW he1 hqb
      rcases ea with ⟨cA, na, ga | ga | ga | ga | ga⟩ | ⟨cj, gs⟩ <;> first | exact hca.elim | skip
      · obtain ⟨rfl, ⟨ty, har, (⟨-, rfl⟩ | ⟨h0, -⟩ | ⟨h0, -⟩)⟩, hfa⟩ := hca
        · rcases eb with ⟨cB, nb, gb | gb | gb | gb | gb⟩ | ⟨cj, gs⟩ <;> first | exact hcb.elim | skip
          · obtain ⟨rfl, ⟨ty, har2, (⟨-, rfl⟩ | ⟨h0, -⟩ | ⟨h0, -⟩)⟩, hfb⟩ := hcb
            · have hK2 : va_K D vwCl [(cA, .int), (cB, .int)] s := (sd_AR_K hK har).app (sd_AR_K hK har2)
              refine va_copyi (D := D) hx hb (by rw [hml]; exact hls.1.symm) hown (hts _ hmw) (hts _ sd_ws_ok2.2.2.2.2.2.1) (hts _ sd_ws_ok2.2.2.2.2.2.2.1) (hts _ sd_ws_ok2.2.2.2.2.2.2.2) hK2 hP hD hS a b 0 1 hwa hwb rfl rfl rfl (sd_nneg hsp0) (sd_nneg hdp0) (sd_nneg hn0) (by rw [sd_clamp, sd_clamp]; omega) (by rw [sd_clamp, sd_clamp]; omega) (fun _ _ => rfl) hf ?_ hd (fun H1 locs1 hP1 hD1 hS1 => ?_)
              · have : nativeFrameWords "java/lang/System" "arraycopy" 5 ≤ 40 := by decide
                omega
              · refine hT _ H1 locs1 ls cr lv (sd_RW_set (e2 := .inl (cB, nb, .inl (va_cpy ga gb csp.toInt.toNat cdp.toInt.toNat cn.toInt.toNat))) hW hwb ⟨rfl, ⟨_, har2, Or.inl ⟨rfl, rfl⟩⟩, fun j => ?_⟩) hP1 hD1 hS1 ?_ ?_ ?_ hls
                · unfold va_cpy
                  split
                  · exact hfa _
                  · exact hfb _
                · rw [sd_as_set hwb]; exact hE
                · rw [sd_as_set hwb]; exact hr
                · rw [sd_as_set hwb]; exact hlv
            · cases h0
            · cases h0
          · obtain ⟨-, -, h0, -⟩ := hcb
            cases h0
          · obtain ⟨-, ⟨ci, q, -, h0, -⟩, -⟩ := hcb
            omega
        · cases h0
        · cases h0
      · obtain ⟨-, -, h0, -⟩ := hca
        cases h0
      · obtain ⟨-, ⟨ci, q, -, h0, -⟩, -⟩ := hca
        omega
    · cases h
  · cases h
end SdSim
