/-! every step that stays in its method -/
theorem sd_c_eq (x y : Int32) : sd_cnd .eq x.toInt y.toInt = true ↔ x = y := by
  simp only [sd_cnd, decide_eq_true_eq, ne_eq, Int32.lt_iff_toInt_lt, Int32.le_iff_toInt_le, ← Int32.toInt_inj]
theorem sd_z_eq (x : Int32) : sd_cnd .eq x.toInt 0 = true ↔ x = 0 := sd_c_eq x 0
theorem sd_c_ne (x y : Int32) : sd_cnd .ne x.toInt y.toInt = true ↔ ¬ x = y := by
  simp only [sd_cnd, decide_eq_true_eq, ne_eq, Int32.lt_iff_toInt_lt, Int32.le_iff_toInt_le, ← Int32.toInt_inj]
theorem sd_z_ne (x : Int32) : sd_cnd .ne x.toInt 0 = true ↔ ¬ x = 0 := sd_c_ne x 0
theorem sd_c_lt (x y : Int32) : sd_cnd .lt x.toInt y.toInt = true ↔ x < y := by
  simp only [sd_cnd, decide_eq_true_eq, ne_eq, Int32.lt_iff_toInt_lt, Int32.le_iff_toInt_le, ← Int32.toInt_inj]
theorem sd_z_lt (x : Int32) : sd_cnd .lt x.toInt 0 = true ↔ x < 0 := sd_c_lt x 0
theorem sd_c_ge (x y : Int32) : sd_cnd .ge x.toInt y.toInt = true ↔ y ≤ x := by
  simp only [sd_cnd, decide_eq_true_eq, ne_eq, Int32.lt_iff_toInt_lt, Int32.le_iff_toInt_le, ← Int32.toInt_inj]
theorem sd_z_ge (x : Int32) : sd_cnd .ge x.toInt 0 = true ↔ 0 ≤ x := sd_c_ge x 0
theorem sd_c_gt (x y : Int32) : sd_cnd .gt x.toInt y.toInt = true ↔ y < x := by
  simp only [sd_cnd, decide_eq_true_eq, ne_eq, Int32.lt_iff_toInt_lt, Int32.le_iff_toInt_le, ← Int32.toInt_inj]
theorem sd_z_gt (x : Int32) : sd_cnd .gt x.toInt 0 = true ↔ 0 < x := sd_c_gt x 0
theorem sd_c_le (x y : Int32) : sd_cnd .le x.toInt y.toInt = true ↔ x ≤ y := by
  simp only [sd_cnd, decide_eq_true_eq, ne_eq, Int32.lt_iff_toInt_lt, Int32.le_iff_toInt_le, ← Int32.toInt_inj]
theorem sd_z_le (x : Int32) : sd_cnd .le x.toInt 0 = true ↔ x ≤ 0 := sd_c_le x 0
section SdSim
variable {p : Program} {l : Launch} {e : Env} {R : Room} {s : State} {m : MethodId} {args : Array Value} {below : List Frame} {meth : Method} {c : Code} {D : va_G} {A : Nat → Prop} {as0 : List Nat} {nL : Nat} {Q : State → Prop} {cc : ByteArray} {o : Nat} {ini : Bool} {F F1 : sd_F}
theorem sd_K_br {b : Bool} {off : Int} {st2 : List sd_V}
    (hst : ∀ (as : List Nat) (cst : List Value), sd_RL as F.2.2.1 cst → ∃ cst2, sd_RL as st2 cst2 ∧ ∀ (H : Heap) (locs : List Loc) (k n : Nat) (ls : Array Slot) (tgt : Nat), (F.1 : Int) + off = (tgt : Int) → W p l e R s m args below meth c H locs k n Q (F0 m (if b = true then tgt else F.1 + 3) ls cst2) → W p l e R s m args below meth c H locs k n Q (F0 m F.1 ls cst))
    (h : sd_br F b off st2 = some (.inl F1)) : sd_K p l e R s m args below meth c D A as0 nL Q F F1 := by
  unfold sd_br at h
  obtain ⟨h0, h⟩ := sd_if h
  refine sd_K_st h fun as cst hs => ?_
  obtain ⟨cst2, h1, h2⟩ := hst as cst hs
  exact ⟨cst2, h1, fun H locs k n ls k2 => h2 _ _ _ _ _ _ (by omega) k2⟩
theorem sd_ret_no {k : sd_V → Bool} (h : sd_ret F k = some (.inl F1)) : False := by
  unfold sd_ret at h
  split at h
  · obtain ⟨-, h⟩ := sd_if h
    cases h
  · cases h
set_option maxHeartbeats 4000000 in
theorem sd_sim (hx : p.tables.exec = Jvm.exec) (hb : c.code = cc) (hml : c.maxLocals = nL) (hown : s.vm.findClass (sd_cn o) = some m.cls) (hts : ∀ w ∈ sd_G, w.before args s = true) (hN : sd_NW s) (hK : va_K D vwCl [] s) (hA : ∀ q, s.heap.size ≤ q → A q) (hf : 1 ≤ R.frames) (hlo : 64 ≤ R.locals) (hini : ini = true → meth.name = "<init>") {rt : Option FieldType} {ins : Jvm.ClassFile.Instr} {len : Nat} (hd : decode cc F.1 = .ok (ins, len)) (h : sd_st o ini nL rt ins len F = some (.inl F1)) : sd_K p l e R s m args below meth c D A as0 nL Q F F1 := by
  unfold sd_st at h
  split at h
  · obtain ⟨⟨h1, rfl⟩, h2⟩ := sd_if h
    exact sd_K_c (n2 := 1) (v := .inl _) (w := .int _) (fun as => h1) (fun H locs k n ls rest k2 => lv_iconst hx hb hd rfl k2) h2
  · obtain ⟨⟨h1, rfl⟩, h2⟩ := sd_if h
    exact sd_K_c (n2 := 2) (v := .inl _) (w := .int _) (fun as => h1) (fun H locs k n ls rest k2 => lv_bipush hx hb hd rfl k2) h2
  · obtain ⟨⟨h1, rfl⟩, h2⟩ := sd_if h
    exact sd_K_c (n2 := 3) (v := .inl _) (w := .int _) (fun as => h1) (fun H locs k n ls rest k2 => lv_sipush hx hb hd rfl k2) h2
  · rename_i n
    obtain ⟨rfl, h2⟩ := sd_if h
    refine sd_K_c (n2 := 1) (w := .long (Int64.ofNat (n : Nat))) (fun as => ?_) (fun H locs k n2 ls rest k2 => lv_lconst hx hb hd rfl k2) h2
    show (Int64.ofNat (n : Nat)).toInt = _
    rcases n with ⟨n, hn⟩
    rcases (by omega : n = 0 ∨ n = 1) with rfl | rfl <;> rfl
  · rename_i i
    obtain ⟨rfl, h2⟩ := sd_if h
    cases hl : sd_lcT.lookup (o, i) with
    | none => rw [hl] at h2; cases h2
    | some z =>
      rw [hl] at h2
      obtain ⟨h3, h4⟩ := sd_lc_ok _ _ _ hl
      exact sd_K_c (n2 := 2) (v := .inl _) (w := .int _) (fun as => h4) (fun H locs k n2 ls rest k2 => lv_ldc hx hb hown (hts _ h3) hd k2) h2
  · rename_i i
    obtain ⟨rfl, h2⟩ := sd_if h
    cases hl : sd_lcT.lookup (o, i) with
    | none => rw [hl] at h2; cases h2
    | some z =>
      rw [hl] at h2
      obtain ⟨h3, h4⟩ := sd_lc_ok _ _ _ hl
      exact sd_K_c (n2 := 3) (v := .inl _) (w := .int _) (fun as => h4) (fun H locs k n2 ls rest k2 => lv_ldcw hx hb hown (hts _ h3) hd k2) h2
  · rename_i i
    obtain ⟨rfl, h2⟩ := sd_if h
    cases hl : sd_l2T.lookup (o, i) with
    | none => rw [hl] at h2; cases h2
    | some z =>
      rw [hl] at h2
      obtain ⟨h3, h4⟩ := sd_l2_ok _ _ _ hl
      exact sd_K_c (n2 := 3) (v := .inr (.inl _)) (w := .long _) (fun as => h4) (fun H locs k n2 ls rest k2 => lv_ldc2 hx hb hown (hts _ h3) hd k2) h2
  · obtain ⟨rfl, h2⟩ := sd_if h
    exact sd_K_c (n2 := 1) (v := .inr (.inr none)) (w := .null) (fun as => trivial) (fun H locs k n ls rest k2 => lv_null hx hb hd k2) h2
  · obtain ⟨rfl, h2⟩ := sd_if h
    refine sd_K_ld (n2 := 2) (fun H locs k n ls rest as v w hv hr hl k2 => ?_) h2
    rcases v with z | z | _ | a <;> first | (cases hv; done) | skip
    cases w <;> first | exact hr.elim | exact lv_iload hx hb hd hl k2
  · obtain ⟨rfl, h2⟩ := sd_if h
    refine sd_K_ld (n2 := 1) (fun H locs k n ls rest as v w hv hr hl k2 => ?_) h2
    rcases v with z | z | _ | a <;> first | (cases hv; done) | skip
    cases w <;> first | exact hr.elim | exact lv_iload_n hx hb hd rfl hl k2
  · obtain ⟨rfl, h2⟩ := sd_if h
    refine sd_K_ld (n2 := 2) (fun H locs k n ls rest as v w hv hr hl k2 => ?_) h2
    rcases v with z | z | _ | a <;> first | (cases hv; done) | skip
    cases w <;> first | exact hr.elim | exact lv_lload hx hb hd hl k2
  · obtain ⟨rfl, h2⟩ := sd_if h
    refine sd_K_ld (n2 := 1) (fun H locs k n ls rest as v w hv hr hl k2 => ?_) h2
    rcases v with z | z | _ | a <;> first | (cases hv; done) | skip
    cases w <;> first | exact hr.elim | exact lv_lload_n hx hb hd rfl hl k2
  · obtain ⟨rfl, h2⟩ := sd_if h
    refine sd_K_ld (n2 := 2) (fun H locs k n ls rest as v w hv hr hl k2 => ?_) h2
    rcases v with z | z | _ | a
    · cases hv
    · cases hv
    · cases w <;> first | exact hr.elim | exact lv_aloadN hx hb hd hl k2
    · cases w <;> first | exact hr.elim | exact lv_aload hx hb hd hl k2
  · obtain ⟨rfl, h2⟩ := sd_if h
    refine sd_K_ld (n2 := 1) (fun H locs k n ls rest as v w hv hr hl k2 => ?_) h2
    rcases v with z | z | _ | a
    · cases hv
    · cases hv
    · cases w <;> first | exact hr.elim | exact lv_aload_nN hx hb hd rfl hl k2
    · cases w <;> first | exact hr.elim | exact lv_aload_n hx hb hd rfl hl k2
  · obtain ⟨rfl, h2⟩ := sd_if h
    refine sd_K_s1 (n2 := 2) (fun H locs k n ls rest as v w lv hv hr hls hi k2 => ?_) h2
    rcases v with z | z | _ | a <;> first | (cases hv; done) | skip
    cases w <;> first | exact hr.elim | exact lv_istore hx hb hd hls hi rfl k2
  · obtain ⟨rfl, h2⟩ := sd_if h
    refine sd_K_s1 (n2 := 1) (fun H locs k n ls rest as v w lv hv hr hls hi k2 => ?_) h2
    rcases v with z | z | _ | a <;> first | (cases hv; done) | skip
    cases w <;> first | exact hr.elim | exact lv_istore_n hx hb hd rfl hls hi rfl k2
  · obtain ⟨rfl, h2⟩ := sd_if h
    refine sd_K_s1 (n2 := 2) (fun H locs k n ls rest as v w lv hv hr hls hi k2 => ?_) h2
    rcases v with z | z | _ | a
    · cases hv
    · cases hv
    · cases w <;> first | exact hr.elim | exact lv_astoreN hx hb hd hls hi rfl k2
    · cases w <;> first | exact hr.elim | exact lv_astore hx hb hd hls hi rfl k2
  · obtain ⟨rfl, h2⟩ := sd_if h
    refine sd_K_s1 (n2 := 1) (fun H locs k n ls rest as v w lv hv hr hls hi k2 => ?_) h2
    rcases v with z | z | _ | a
    · cases hv
    · cases hv
    · cases w <;> first | exact hr.elim | exact lv_astore_nN hx hb hd rfl hls hi rfl k2
    · cases w <;> first | exact hr.elim | exact lv_astore_n hx hb hd rfl hls hi rfl k2
  · obtain ⟨rfl, h2⟩ := sd_if h
    exact sd_K_s2 (n2 := 2) (fun H locs k n ls rest w lv hls hi k2 => lv_lstore hx hb hd hls hi rfl k2) h2
  · obtain ⟨rfl, h2⟩ := sd_if h
    exact sd_K_s2 (n2 := 1) (fun H locs k n ls rest w lv hls hi k2 => lv_lstore_n hx hb hd rfl hls hi rfl k2) h2
  · rename_i i n
    split at h
    · rename_i x hv
      obtain ⟨⟨rfl, hi, hn⟩, h2⟩ := sd_if h
      unfold sd_nl at h2
      cases h2
      refine ⟨Nat.le_refl _, Nat.le_refl _, fun _ _ hT ws H locs ls cst lv hW hP hD hS hE hst hlv hls => ?_⟩
      obtain ⟨k, w, g1, g2⟩ := sd_RV_get hlv hv
      cases w <;> first | exact g2.elim | skip
      rename_i cx
      refine lv_iinc hx hb hd hls g1 rfl hi rfl fun ls' hls' => hT ws H locs ls' cst _ hW hP hD hS hE hst ?_ hls'
      refine ⟨rfl, ?_, sd_RV_fil (f := fun a b => !(a == i) && !(a + 1 == i && b == 2)) hlv⟩
      show (cx + Int32.ofInt n).toInt = _
      rw [← sd_i_add, hn, show cx.toInt = x from g2]
    · cases h
  · obtain ⟨rfl, h2⟩ := sd_if h
    exact sd_K_i2 sd_i_add (fun H locs k n ls rest x y k2 => lv_iadd hx hb hd k2) h2
  · obtain ⟨rfl, h2⟩ := sd_if h
    exact sd_K_i2 sd_i_sub (fun H locs k n ls rest x y k2 => lv_isub hx hb hd k2) h2
  · obtain ⟨rfl, h2⟩ := sd_if h
    exact sd_K_i2 sd_i_mul (fun H locs k n ls rest x y k2 => lv_imul hx hb hd k2) h2
  · obtain ⟨rfl, h2⟩ := sd_if h
    exact sd_K_i2 sd_i_and (fun H locs k n ls rest x y k2 => lv_iand hx hb hd k2) h2
  · obtain ⟨rfl, h2⟩ := sd_if h
    exact sd_K_i2 sd_i_or (fun H locs k n ls rest x y k2 => lv_ior hx hb hd k2) h2
  · obtain ⟨rfl, h2⟩ := sd_if h
    exact sd_K_i2 sd_i_xor (fun H locs k n ls rest x y k2 => lv_ixor hx hb hd k2) h2
  · obtain ⟨rfl, h2⟩ := sd_if h
    exact sd_K_i2 sd_i_shl (fun H locs k n ls rest x y k2 => lv_ishl hx hb hd k2) h2
  · obtain ⟨rfl, h2⟩ := sd_if h
    exact sd_K_i2 sd_i_shr (fun H locs k n ls rest x y k2 => lv_ishr hx hb hd k2) h2
  · obtain ⟨rfl, h2⟩ := sd_if h
    exact sd_K_i2 sd_i_ush (fun H locs k n ls rest x y k2 => lv_iushr hx hb hd rfl k2) h2
  · obtain ⟨rfl, h2⟩ := sd_if h
    exact sd_K_i2z sd_i_div (fun H locs k n ls rest x y h0 k2 => lv_idiv hx hb hd h0 k2) h2
  · obtain ⟨rfl, h2⟩ := sd_if h
    exact sd_K_i2z sd_i_rem (fun H locs k n ls rest x y h0 k2 => lv_irem hx hb hd h0 k2) h2
  · obtain ⟨rfl, h2⟩ := sd_if h
    exact sd_K_l2 sd_l_add (fun H locs k n ls rest x y k2 => lv_ladd hx hb hd k2) h2
  · obtain ⟨rfl, h2⟩ := sd_if h
    exact sd_K_l2 sd_l_sub (fun H locs k n ls rest x y k2 => lv_lsub hx hb hd k2) h2
  · obtain ⟨rfl, h2⟩ := sd_if h
    exact sd_K_l2 sd_l_mul (fun H locs k n ls rest x y k2 => lv_lmul hx hb hd k2) h2
  · obtain ⟨rfl, h2⟩ := sd_if h
    exact sd_K_l2 sd_l_and (fun H locs k n ls rest x y k2 => lv_land hx hb hd k2) h2
  · obtain ⟨rfl, h2⟩ := sd_if h
    exact sd_K_l2 sd_l_or (fun H locs k n ls rest x y k2 => lv_lor hx hb hd k2) h2
  · obtain ⟨rfl, h2⟩ := sd_if h
    exact sd_K_l2z sd_l_div (fun H locs k n ls rest x y h0 k2 => lv_ldiv hx hb hd h0 k2) h2
  · obtain ⟨rfl, h2⟩ := sd_if h
    exact sd_K_l2z sd_l_rem (fun H locs k n ls rest x y h0 k2 => lv_lrem hx hb hd h0 k2) h2
  · split at h
    · rename_i y x r heq
      obtain ⟨rfl, h2⟩ := sd_if h
      refine sd_K_st h2 fun as cst hst => ?_
      rw [heq] at hst
      obtain ⟨cy, c1, rfl, hy, hs1⟩ := sd_RL_i hst
      obtain ⟨cx, c2, rfl, hx2, hs2⟩ := sd_RL_l hs1
      subst hy; subst hx2
      exact ⟨.long (cx <<< (cy.toInt64 &&& 63)) :: c2, ⟨(sd_l_shl cx cy).symm, hs2⟩, fun H locs k n ls k2 => lv_lshl hx hb hd rfl k2⟩
    · cases h
  · split at h
    · rename_i y x r heq
      obtain ⟨rfl, h2⟩ := sd_if h
      refine sd_K_st h2 fun as cst hst => ?_
      rw [heq] at hst
      obtain ⟨cy, c1, rfl, hy, hs1⟩ := sd_RL_l hst
      obtain ⟨cx, c2, rfl, hx2, hs2⟩ := sd_RL_l hs1
      subst hy; subst hx2
      exact ⟨.int (lg_cmp cx cy) :: c2, ⟨(sd_l_cmp cx cy).symm, hs2⟩, fun H locs k n ls k2 => W.lcmp hx hb hd k2⟩
    · cases h
  · split at h
    · rename_i x r heq
      obtain ⟨rfl, h2⟩ := sd_if h
      refine sd_K_st h2 fun as cst hst => ?_
      rw [heq] at hst
      obtain ⟨cx, c2, rfl, hx2, hs2⟩ := sd_RL_i hst
      subst hx2
      exact ⟨.long cx.toInt64 :: c2, ⟨Int32.toInt_toInt64 cx, hs2⟩, fun H locs k n ls k2 => lv_i2l hx hb hd rfl k2⟩
    · cases h
  · split at h
    · rename_i x r heq
      obtain ⟨rfl, h2⟩ := sd_if h
      refine sd_K_st h2 fun as cst hst => ?_
      rw [heq] at hst
      obtain ⟨cx, c2, rfl, hx2, hs2⟩ := sd_RL_l hst
      subst hx2
      exact ⟨.int cx.toInt32 :: c2, ⟨Int64.toInt_toInt32 cx, hs2⟩, fun H locs k n ls k2 => lv_l2i hx hb hd rfl k2⟩
    · cases h
  · split at h
    · rename_i x r heq
      obtain ⟨rfl, h2⟩ := sd_if h
      refine sd_K_st h2 fun as cst hst => ?_
      rw [heq] at hst
      obtain ⟨cx, c2, rfl, hx2, hs2⟩ := sd_RL_i hst
      subst hx2
      exact ⟨.int cx.toInt8.toInt32 :: c2, ⟨sd_nar_b cx, hs2⟩, fun H locs k n ls k2 => lv_i2b hx hb hd rfl k2⟩
    · cases h
  · split at h
    · rename_i v r heq
      obtain ⟨⟨rfl, hcat⟩, h2⟩ := sd_if h
      refine sd_K_st h2 fun as cst hst => ?_
      rw [heq] at hst
      obtain ⟨w, c2, rfl, hw2, hs2⟩ := sd_RL_v hst
      exact ⟨c2, hs2, fun H locs k n ls k2 => lv_pop hx hb hd (by rw [sd_R_cat hw2, hcat]) k2⟩
    · cases h
  · split at h
    · rename_i v r heq
      obtain ⟨⟨rfl, hcat⟩, h2⟩ := sd_if h
      refine sd_K_st h2 fun as cst hst => ?_
      rw [heq] at hst
      obtain ⟨w, c2, rfl, hw2, hs2⟩ := sd_RL_v hst
      exact ⟨w :: w :: c2, ⟨hw2, hw2, hs2⟩, fun H locs k n ls k2 => lv_dup hx hb hd (by rw [sd_R_cat hw2, hcat]) k2⟩
    · cases h
  · split at h
    · rename_i v u r heq
      obtain ⟨⟨rfl, hcat, hcat2⟩, h2⟩ := sd_if h
      refine sd_K_st h2 fun as cst hst => ?_
      rw [heq] at hst
      obtain ⟨w, c1, rfl, hw1, hs1⟩ := sd_RL_v hst
      obtain ⟨w2, c2, rfl, hw2, hs2⟩ := sd_RL_v hs1
      exact ⟨w :: w2 :: w :: w2 :: c2, ⟨hw1, hw2, hw1, hw2, hs2⟩, fun H locs k n ls k2 => lv_dup2_11 hx hb hd (by rw [sd_R_cat hw1, hcat]) (by rw [sd_R_cat hw2, hcat2]) k2⟩
    · cases h
  · obtain ⟨rfl, h2⟩ := sd_if h
    exact sd_K_j (fun as cst hst => ⟨cst, hst, fun H locs k n ls tgt ht k2 => lv_goto hx hb hd ht k2⟩) h2
  · rename_i cd off
    split at h
    · rename_i x r heq
      obtain ⟨rfl, h2⟩ := sd_if h
      refine sd_K_br (fun as cst hst => ?_) h2
      rw [heq] at hst
      obtain ⟨cx, c2, rfl, hx2, hs2⟩ := sd_RL_i hst
      subst hx2
      cases cd
      · exact ⟨c2, hs2, fun H locs k n ls tgt ht k2 => lv_if_eq hx hb hd ht (fun h0 => by rw [if_pos ((sd_z_eq cx).mpr h0)] at k2; exact k2) (fun h0 => by rw [if_neg (fun h1 => h0 ((sd_z_eq cx).mp h1))] at k2; exact k2)⟩
      · exact ⟨c2, hs2, fun H locs k n ls tgt ht k2 => lv_if_ne hx hb hd ht (fun h0 => by rw [if_pos ((sd_z_ne cx).mpr h0)] at k2; exact k2) (fun h0 => by rw [if_neg (fun h1 => ((sd_z_ne cx).mp h1) h0)] at k2; exact k2)⟩
      · exact ⟨c2, hs2, fun H locs k n ls tgt ht k2 => lv_if_lt hx hb hd ht (fun h0 => by rw [if_pos ((sd_z_lt cx).mpr h0)] at k2; exact k2) (fun h0 => by rw [if_neg (fun h1 => h0 ((sd_z_lt cx).mp h1))] at k2; exact k2)⟩
      · exact ⟨c2, hs2, fun H locs k n ls tgt ht k2 => lv_if_ge hx hb hd ht (fun h0 => by rw [if_pos ((sd_z_ge cx).mpr h0)] at k2; exact k2) (fun h0 => by rw [if_neg (fun h1 => h0 ((sd_z_ge cx).mp h1))] at k2; exact k2)⟩
      · exact ⟨c2, hs2, fun H locs k n ls tgt ht k2 => lv_if_gt hx hb hd ht (fun h0 => by rw [if_pos ((sd_z_gt cx).mpr h0)] at k2; exact k2) (fun h0 => by rw [if_neg (fun h1 => h0 ((sd_z_gt cx).mp h1))] at k2; exact k2)⟩
      · exact ⟨c2, hs2, fun H locs k n ls tgt ht k2 => lv_if_le hx hb hd ht (fun h0 => by rw [if_pos ((sd_z_le cx).mpr h0)] at k2; exact k2) (fun h0 => by rw [if_neg (fun h1 => h0 ((sd_z_le cx).mp h1))] at k2; exact k2)⟩
    · cases h
  · rename_i cd off
    split at h
    · rename_i y x r heq
      obtain ⟨rfl, h2⟩ := sd_if h
      refine sd_K_br (fun as cst hst => ?_) h2
      rw [heq] at hst
      obtain ⟨cy, c1, rfl, hy2, hs1⟩ := sd_RL_i hst
      obtain ⟨cx, c2, rfl, hx2, hs2⟩ := sd_RL_i hs1
      subst hy2; subst hx2
      cases cd
      · exact ⟨c2, hs2, fun H locs k n ls tgt ht k2 => lv_icmp_eq hx hb hd ht (fun h0 => by rw [if_pos ((sd_c_eq cx cy).mpr h0)] at k2; exact k2) (fun h0 => by rw [if_neg (fun h1 => h0 ((sd_c_eq cx cy).mp h1))] at k2; exact k2)⟩
      · exact ⟨c2, hs2, fun H locs k n ls tgt ht k2 => lv_icmp_ne hx hb hd ht (fun h0 => by rw [if_pos ((sd_c_ne cx cy).mpr h0)] at k2; exact k2) (fun h0 => by rw [if_neg (fun h1 => ((sd_c_ne cx cy).mp h1) h0)] at k2; exact k2)⟩
      · exact ⟨c2, hs2, fun H locs k n ls tgt ht k2 => lv_icmp_lt hx hb hd ht (fun h0 => by rw [if_pos ((sd_c_lt cx cy).mpr h0)] at k2; exact k2) (fun h0 => by rw [if_neg (fun h1 => h0 ((sd_c_lt cx cy).mp h1))] at k2; exact k2)⟩
      · exact ⟨c2, hs2, fun H locs k n ls tgt ht k2 => lv_icmp_ge hx hb hd ht (fun h0 => by rw [if_pos ((sd_c_ge cx cy).mpr h0)] at k2; exact k2) (fun h0 => by rw [if_neg (fun h1 => h0 ((sd_c_ge cx cy).mp h1))] at k2; exact k2)⟩
      · exact ⟨c2, hs2, fun H locs k n ls tgt ht k2 => lv_icmp_gt hx hb hd ht (fun h0 => by rw [if_pos ((sd_c_gt cx cy).mpr h0)] at k2; exact k2) (fun h0 => by rw [if_neg (fun h1 => h0 ((sd_c_gt cx cy).mp h1))] at k2; exact k2)⟩
      · exact ⟨c2, hs2, fun H locs k n ls tgt ht k2 => lv_icmp_le hx hb hd ht (fun h0 => by rw [if_pos ((sd_c_le cx cy).mpr h0)] at k2; exact k2) (fun h0 => by rw [if_neg (fun h1 => h0 ((sd_c_le cx cy).mp h1))] at k2; exact k2)⟩
    · cases h
  · rename_i off
    split at h
    · rename_i q r heq
      obtain ⟨rfl, h2⟩ := sd_if h
      refine sd_K_br (fun as cst hst => ?_) h2
      rw [heq] at hst
      cases q with
      | none =>
        obtain ⟨c2, rfl, hs2⟩ := sd_RL_n hst
        exact ⟨c2, hs2, fun H locs k n ls tgt ht k2 => lv_ifnonnullN hx hb hd k2⟩
      | some a =>
        obtain ⟨q, c2, rfl, hq, hs2⟩ := sd_RL_r hst
        exact ⟨c2, hs2, fun H locs k n ls tgt ht k2 => lv_ifnonnull hx hb hd ht k2⟩
    · cases h
  · rename_i dd lo hi offs
    split at h
    · rename_i x r heq
      split at h
      · rename_i hout
        refine sd_K_j (fun as cst hst => ?_) h
        rw [heq] at hst
        obtain ⟨cx, c2, rfl, hx2, hs2⟩ := sd_RL_i hst
        subst hx2
        exact ⟨c2, hs2, fun H locs k n ls tgt ht k2 => lv_tableOut hx hb hd hout ht k2⟩
      · rename_i hout
        split at h
        · rename_i off hoff
          refine sd_K_j (fun as cst hst => ?_) h
          rw [heq] at hst
          obtain ⟨cx, c2, rfl, hx2, hs2⟩ := sd_RL_i hst
          subst hx2
          exact ⟨c2, hs2, fun H locs k n ls tgt ht k2 => lv_tableIn hx hb hd (fun h1 => hout (Or.inl h1)) (fun h1 => hout (Or.inr h1)) hoff ht k2⟩
        · cases h
    · cases h
  · rename_i dd ps
    split at h
    · rename_i x r heq
      obtain ⟨hps, h2⟩ := sd_if h
      refine sd_K_j (fun as cst hst => ?_) h2
      rw [heq] at hst
      obtain ⟨cx, c2, rfl, hx2, hs2⟩ := sd_RL_i hst
      subst hx2
      exact ⟨c2, hs2, fun H locs k n ls tgt ht k2 => lv_lookup hx hb hd hps rfl ht k2⟩
    · cases h
  · obtain ⟨rfl, h2⟩ := sd_if h
    exact sd_K_get hx hb hown hts hK hd h2
  · obtain ⟨rfl, h2⟩ := sd_if h
    exact sd_K_put hx hb hown hts hK hini hd h2
  · obtain ⟨rfl, h2⟩ := sd_if h
    exact sd_K_iald hx hb hK hd h2
  · obtain ⟨rfl, h2⟩ := sd_if h
    exact sd_K_lald hx hb hK hd h2
  · obtain ⟨rfl, h2⟩ := sd_if h
    exact sd_K_bald hx hb hK hd h2
  · obtain ⟨rfl, h2⟩ := sd_if h
    exact sd_K_aald hx hb hK hd h2
  · obtain ⟨rfl, h2⟩ := sd_if h
    exact sd_K_iast hx hb hK hd h2
  · obtain ⟨rfl, h2⟩ := sd_if h
    exact sd_K_last hx hb hK hd h2
  · obtain ⟨rfl, h2⟩ := sd_if h
    exact sd_K_bast hx hb hK hd h2
  · obtain ⟨rfl, h2⟩ := sd_if h
    exact sd_K_aast hx hb hK hd h2
  · obtain ⟨rfl, h2⟩ := sd_if h
    exact sd_K_newa hx hb hts hK hA hd h2
  · obtain ⟨rfl, h2⟩ := sd_if h
    exact sd_K_anew hN hx hb hown hts hK hA hd h2
  · obtain ⟨rfl, h2⟩ := sd_if h
    exact sd_K_new hx hb hown hts hK hA hd h2
  · split at h
    · rename_i k j hl
      obtain ⟨⟨rfl, hk⟩, h2⟩ := sd_if h
      exact sd_K_prim hx hb hml hown hts hK hf hlo hl (Or.inr ⟨hk, hd⟩) h2
    · cases h
  · split at h
    · rename_i k j hl
      obtain ⟨⟨rfl, hk⟩, h2⟩ := sd_if h
      exact sd_K_prim hx hb hml hown hts hK hf hlo hl (Or.inl ⟨hk, hd⟩) h2
    · cases h
  · obtain ⟨-, h2⟩ := sd_if h
    split at h2
    · exact (sd_ret_no h2).elim
    · exact (sd_ret_no h2).elim
    · cases h2
  · obtain ⟨-, h2⟩ := sd_if h
    exact (sd_ret_no h2).elim
  · obtain ⟨-, h2⟩ := sd_if h
    split at h2
    · exact (sd_ret_no h2).elim
    · cases h2
  · obtain ⟨-, h2⟩ := sd_if h
    cases h2
  · cases h
end SdSim
