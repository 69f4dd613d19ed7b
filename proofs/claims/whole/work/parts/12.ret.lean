/-! a method's end -/
section SdSim
variable {p : Program} {l : Launch} {e : Env} {R : Room} {s : State} {m : MethodId} {args : Array Value} {below : List Frame} {meth : Method} {c : Code} {D : va_G} {A : Nat → Prop} {as0 : List Nat} {nL : Nat} {Q : State → Prop} {cc : ByteArray} {o : Nat} {ini : Bool} {F F1 : sd_F}
theorem sd_nr_n {Ra : sd_A} {a : Nat} {b : List sd_V} (h : sd_n F a b = some (.inr Ra)) : False := by cases h
theorem sd_nr_nm {Ra : sd_A} {a : Nat} {b : List sd_V} {E : List sd_E} (h : sd_nm F a b E = some (.inr Ra)) : False := by cases h
theorem sd_nr_nl {Ra : sd_A} {a : Nat} {v : List (Nat × sd_V)} {b : List sd_V} (h : sd_nl F a v b = some (.inr Ra)) : False := by cases h
theorem sd_nr_nc {Ra : sd_A} {a k : Nat} {b : List sd_V} {en : sd_E} (h : sd_nc F a b k en = some (.inr Ra)) : False := by cases h
theorem sd_nr_j {Ra : sd_A} {a : Int} {b : List sd_V} (h : sd_j F a b = some (.inr Ra)) : False := by
  unfold sd_j at h
  exact sd_nr_n (sd_if h).2
theorem sd_nr_br {Ra : sd_A} {a : Int} {x : Bool} {b : List sd_V} (h : sd_br F x a b = some (.inr Ra)) : False := by
  unfold sd_br at h
  exact sd_nr_n (sd_if h).2
theorem sd_nr_cst {Ra : sd_A} {a : Nat} {v : Option sd_V} (h : sd_cst F a v = some (.inr Ra)) : False := by
  unfold sd_cst at h
  split at h
  · exact sd_nr_n h
  · cases h
theorem sd_nr_ldk {Ra : sd_A} {k : sd_V → Bool} {a b : Nat} (h : sd_ldk k F a b = some (.inr Ra)) : False := by
  unfold sd_ldk at h
  split at h
  · exact sd_nr_n (sd_if h).2
  · cases h
theorem sd_nr_sto1 {Ra : sd_A} {k : sd_V → Bool} {a b n : Nat} (h : sd_sto1 k F n a b = some (.inr Ra)) : False := by
  unfold sd_sto1 at h
  split at h
  · exact sd_nr_nl (sd_if h).2
  · cases h
theorem sd_nr_sto2 {Ra : sd_A} {a b n : Nat} (h : sd_sto2 F n a b = some (.inr Ra)) : False := by
  unfold sd_sto2 at h
  split at h
  · exact sd_nr_nl (sd_if h).2
  · cases h
theorem sd_nr_i2 {Ra : sd_A} {f : Int → Int → Int} (h : sd_i2 F f = some (.inr Ra)) : False := by
  unfold sd_i2 at h
  split at h
  · exact sd_nr_n h
  · cases h
theorem sd_nr_i2z {Ra : sd_A} {f : Int → Int → Int} (h : sd_i2z F f = some (.inr Ra)) : False := by
  unfold sd_i2z at h
  split at h
  · split at h
    · cases h
    · exact sd_nr_n h
  · cases h
theorem sd_nr_l2 {Ra : sd_A} {f : Int → Int → Int} (h : sd_l2 F f = some (.inr Ra)) : False := by
  unfold sd_l2 at h
  split at h
  · exact sd_nr_n h
  · cases h
theorem sd_nr_l2z {Ra : sd_A} {f : Int → Int → Int} (h : sd_l2z F f = some (.inr Ra)) : False := by
  unfold sd_l2z at h
  split at h
  · split at h
    · cases h
    · exact sd_nr_n h
  · cases h
theorem sd_nr_get {Ra : sd_A} {i : Nat} (h : sd_get o F i = some (.inr Ra)) : False := by
  unfold sd_get at h
  split at h
  · split at h
    · have h2 := (sd_if h).2
      split at h2
      · exact sd_nr_n h2
      · cases h2
    · cases h
  · cases h
theorem sd_nr_put {Ra : sd_A} {i : Nat} (h : sd_put o ini F i = some (.inr Ra)) : False := by
  unfold sd_put at h
  split at h
  · split at h
    · exact sd_nr_nm (sd_if h).2
    · cases h
  · cases h
theorem sd_nr_ald {Ra : sd_A} {k : Nat → Bool} (h : sd_ald k F = some (.inr Ra)) : False := by
  unfold sd_ald at h
  split at h
  · split at h
    · exact sd_nr_n (sd_if h).2
    · cases h
  · cases h
theorem sd_nr_ast {Ra : sd_A} {k : Nat → sd_V → Option sd_V} (h : sd_ast k F = some (.inr Ra)) : False := by
  unfold sd_ast at h
  split at h
  · split at h
    · split at h
      · exact sd_nr_nm (sd_if h).2
      · cases h
    · cases h
  · cases h
theorem sd_nr_newa {Ra : sd_A} {n : Nat} {t : Option (Nat × sd_V)} (h : sd_newa F n t = some (.inr Ra)) : False := by
  unfold sd_newa at h
  split at h
  · exact sd_nr_nc (sd_if h).2
  · cases h
theorem sd_nr_new {Ra : sd_A} {t : Option Nat} (h : sd_new F t = some (.inr Ra)) : False := by
  unfold sd_new at h
  split at h
  · exact sd_nr_nc (sd_if h).2
  · cases h
theorem sd_nr_prim {Ra : sd_A} {k : Nat} (h : sd_prim F k = some (.inr Ra)) : False := by
  unfold sd_prim at h
  split at h
  · exact sd_nr_n (sd_if h).2
  · exact sd_nr_n (sd_if h).2
  · exact sd_nr_n (sd_if h).2
  · split at h
    · exact sd_nr_nm (sd_if h).2
    · cases h
  · cases h
/-- a method's end -/
theorem sd_sim_ret (hx : p.tables.exec = Jvm.exec) (hb : c.code = cc) (hlocks : meth.locks = false) {ws0 : va_W} {sz : Nat} (hK : va_K D vwCl [] s) {rt : Option FieldType} (hr : meth.sig.returnType = rt) {ins : Jvm.ClassFile.Instr} {len : Nat} {Ra : sd_A} (hd : decode cc F.1 = .ok (ins, len)) (h : sd_st o ini nL rt ins len F = some (.inr Ra)) :
    F.2.2.2.2.1 = Ra.2.2.1 ∧ F.2.2.2.2.2 = Ra.2.2.2 ∧ sd_T p l e R s m args below meth c D (va_A ws0 sz) (ws0.map (fun q => q.1)) nL (MQ below (sd_Qc D ws0 sz Ra) args s Ra.2.2.1 Ra.2.2.2 (va_A ws0 sz)) F := by
  have fin : ∀ {ws : va_W} {H : Heap} {locs : List Loc} {rv : Option Value}, sd_RO (ws.map (fun q => q.1)) Ra.1 rv → Ra.2.1 = F.2.2.2.1 → sd_RW s F.2.2.2.1 ws → va_P D vwCl ws H → va_D (va_A ws0 sz) ws → va_S (va_A ws0 sz) s.heap H locs → (∃ ex, ws.map (fun q => q.1) = ws0.map (fun q => q.1) ++ ex) → ∀ t : State, t.heap = H → s.WarmedH t.vm → sd_Qc D ws0 sz Ra args s (.returned rv) t := by
    intro ws H locs rv hro hra hW hP hD hS hE t ht hw
    refine ⟨⟨rv, ws, rfl, hro, ?_, hE, by rw [ht]; exact hP, va_K.moved hw.alike hK, hD⟩, hS.F ht⟩
    rw [hra]
    exact sd_RW_mv hw.alike hW
  have hret : ∀ {k : sd_V → Bool}, sd_ret F k = some (.inr Ra) → ∃ v, F.2.2.1 = [v] ∧ k v = true ∧ Ra = (some v, F.2.2.2) := by
    intro k hk
    unfold sd_ret at hk
    split at hk
    · rename_i v heq
      obtain ⟨h1, h2⟩ := sd_if hk
      cases h2
      exact ⟨v, heq, h1, rfl⟩
    · cases hk
  have hst1 : ∀ {as : List Nat} {v : sd_V} {cst : List Value}, sd_RL as [v] cst → ∃ w, cst = [w] ∧ sd_R as v w := by
    intro as v cst hc
    obtain ⟨w, cr, rfl, h1, h2⟩ := sd_RL_v hc
    rcases cr with _ | ⟨x, y⟩
    · exact ⟨w, rfl, h1⟩
    · exact h2.elim
  unfold sd_st at h
  split at h
  · exact (sd_nr_n (sd_if h).2).elim
  · exact (sd_nr_n (sd_if h).2).elim
  · exact (sd_nr_n (sd_if h).2).elim
  · exact (sd_nr_n (sd_if h).2).elim
  · exact (sd_nr_cst (sd_if h).2).elim
  · exact (sd_nr_cst (sd_if h).2).elim
  · exact (sd_nr_cst (sd_if h).2).elim
  · exact (sd_nr_n (sd_if h).2).elim
  · exact (sd_nr_ldk (sd_if h).2).elim
  · exact (sd_nr_ldk (sd_if h).2).elim
  · exact (sd_nr_ldk (sd_if h).2).elim
  · exact (sd_nr_ldk (sd_if h).2).elim
  · exact (sd_nr_ldk (sd_if h).2).elim
  · exact (sd_nr_ldk (sd_if h).2).elim
  · exact (sd_nr_sto1 (sd_if h).2).elim
  · exact (sd_nr_sto1 (sd_if h).2).elim
  · exact (sd_nr_sto1 (sd_if h).2).elim
  · exact (sd_nr_sto1 (sd_if h).2).elim
  · exact (sd_nr_sto2 (sd_if h).2).elim
  · exact (sd_nr_sto2 (sd_if h).2).elim
  · split at h
    · exact (sd_nr_nl (sd_if h).2).elim
    · cases h
  · exact (sd_nr_i2 (sd_if h).2).elim
  · exact (sd_nr_i2 (sd_if h).2).elim
  · exact (sd_nr_i2 (sd_if h).2).elim
  · exact (sd_nr_i2 (sd_if h).2).elim
  · exact (sd_nr_i2 (sd_if h).2).elim
  · exact (sd_nr_i2 (sd_if h).2).elim
  · exact (sd_nr_i2 (sd_if h).2).elim
  · exact (sd_nr_i2 (sd_if h).2).elim
  · exact (sd_nr_i2 (sd_if h).2).elim
  · exact (sd_nr_i2z (sd_if h).2).elim
  · exact (sd_nr_i2z (sd_if h).2).elim
  · exact (sd_nr_l2 (sd_if h).2).elim
  · exact (sd_nr_l2 (sd_if h).2).elim
  · exact (sd_nr_l2 (sd_if h).2).elim
  · exact (sd_nr_l2 (sd_if h).2).elim
  · exact (sd_nr_l2 (sd_if h).2).elim
  · exact (sd_nr_l2z (sd_if h).2).elim
  · exact (sd_nr_l2z (sd_if h).2).elim
  · split at h
    · exact (sd_nr_n (sd_if h).2).elim
    · cases h
  · split at h
    · exact (sd_nr_n (sd_if h).2).elim
    · cases h
  · split at h
    · exact (sd_nr_n (sd_if h).2).elim
    · cases h
  · split at h
    · exact (sd_nr_n (sd_if h).2).elim
    · cases h
  · split at h
    · exact (sd_nr_n (sd_if h).2).elim
    · cases h
  · split at h
    · exact (sd_nr_n (sd_if h).2).elim
    · cases h
  · split at h
    · exact (sd_nr_n (sd_if h).2).elim
    · cases h
  · split at h
    · exact (sd_nr_n (sd_if h).2).elim
    · cases h
  · exact (sd_nr_j (sd_if h).2).elim
  · split at h
    · exact (sd_nr_br (sd_if h).2).elim
    · cases h
  · split at h
    · exact (sd_nr_br (sd_if h).2).elim
    · cases h
  · split at h
    · exact (sd_nr_br (sd_if h).2).elim
    · cases h
  · split at h
    · split at h
      · exact (sd_nr_j h).elim
      · split at h
        · exact (sd_nr_j h).elim
        · cases h
    · cases h
  · split at h
    · exact (sd_nr_j (sd_if h).2).elim
    · cases h
  · exact (sd_nr_get (sd_if h).2).elim
  · exact (sd_nr_put (sd_if h).2).elim
  · exact (sd_nr_ald (sd_if h).2).elim
  · exact (sd_nr_ald (sd_if h).2).elim
  · exact (sd_nr_ald (sd_if h).2).elim
  · exact (sd_nr_ald (sd_if h).2).elim
  · exact (sd_nr_ast (sd_if h).2).elim
  · exact (sd_nr_ast (sd_if h).2).elim
  · exact (sd_nr_ast (sd_if h).2).elim
  · exact (sd_nr_ast (sd_if h).2).elim
  · exact (sd_nr_newa (sd_if h).2).elim
  · exact (sd_nr_newa (sd_if h).2).elim
  · exact (sd_nr_new (sd_if h).2).elim
  · split at h
    · exact (sd_nr_prim (sd_if h).2).elim
    · cases h
  · split at h
    · exact (sd_nr_prim (sd_if h).2).elim
    · cases h
  · obtain ⟨rfl, h2⟩ := sd_if h
    split at h2
    · obtain ⟨v, heq, hv, rfl⟩ := hret h2
      refine ⟨rfl, rfl, fun ws H locs ls cst lv hW hP hD hS hE hst hlv hls => ?_⟩
      rw [heq] at hst
      obtain ⟨w, rfl, hw⟩ := hst1 hst
      rcases v with z | z | _ | a <;> first | (cases hv; done) | skip
      cases w <;> first | exact hw.elim | skip
      exact W.iret hx hb hr (fin hw rfl hW hP hD hS hE) hS.2.2 hd
    · obtain ⟨v, heq, hv, rfl⟩ := hret h2
      refine ⟨rfl, rfl, fun ws H locs ls cst lv hW hP hD hS hE hst hlv hls => ?_⟩
      rw [heq] at hst
      obtain ⟨w, rfl, hw⟩ := hst1 hst
      have hfit := sd_fit_ok hv hw
      rcases v with z | z | _ | a <;> first | (cases hv; done) | skip
      cases w <;> first | exact hw.elim | skip
      exact W.zret hx hb hr hfit.1 (fin hw rfl hW hP hD hS hE) hS.2.2 hd
    · cases h2
  · obtain ⟨⟨rfl, rfl⟩, h2⟩ := sd_if h
    obtain ⟨v, heq, hv, rfl⟩ := hret h2
    refine ⟨rfl, rfl, fun ws H locs ls cst lv hW hP hD hS hE hst hlv hls => ?_⟩
    rw [heq] at hst
    obtain ⟨w, rfl, hw⟩ := hst1 hst
    rcases v with z | z | _ | a <;> first | (cases hv; done) | skip
    cases w <;> first | exact hw.elim | skip
    exact W.lret hx hb hr (fin hw rfl hW hP hD hS hE) hS.2.2 hd
  · obtain ⟨rfl, h2⟩ := sd_if h
    split at h2
    · obtain ⟨v, heq, hv, rfl⟩ := hret h2
      refine ⟨rfl, rfl, fun ws H locs ls cst lv hW hP hD hS hE hst hlv hls => ?_⟩
      rw [heq] at hst
      obtain ⟨w, rfl, hw⟩ := hst1 hst
      refine W.aret hx hb hr (Or.inl ⟨_, rfl⟩) ?_ (fin hw rfl hW hP hD hS hE) hS.2.2 hd
      rcases v with z | z | _ | a <;> first | (cases hv; done) | skip
      · cases w <;> first | exact hw.elim | exact Or.inl rfl
      · cases w <;> first | exact hw.elim | exact Or.inr ⟨_, rfl⟩
    · cases h2
  · obtain ⟨⟨rfl, rfl, hst0⟩, h2⟩ := sd_if h
    cases h2
    refine ⟨rfl, rfl, fun ws H locs ls cst lv hW hP hD hS hE hst hlv hls => ?_⟩
    rw [hst0] at hst
    rcases cst with _ | ⟨x, y⟩
    · exact W.vret hx hb hr (fin (rv := none) trivial rfl hW hP hD hS hE) hS.2.2 hd
    · exact hst.elim
  · cases h
end SdSim
