/-! stores, new cells, the calls that are no methods of ours -/
theorem sd_up_i {f : Nat → sd_V} {g : Nat → Int32} {x : Int32} {z : Int} (hf : ∀ j, f j = .inl (g j).toInt) (i : Nat) (hx : x.toInt = z) : ∀ j, sd_up f i (.inl z) j = .inl (upd g i x j).toInt := by
  intro j
  unfold sd_up upd
  split
  · rw [hx]
  · exact hf j
theorem sd_up_l {f : Nat → sd_V} {g : Nat → Int64} {x : Int64} {z : Int} (hf : ∀ j, f j = .inr (.inl (g j).toInt)) (i : Nat) (hx : x.toInt = z) : ∀ j, sd_up f i (.inr (.inl z)) j = .inr (.inl (vp_updL g i x j).toInt) := by
  intro j
  unfold sd_up vp_updL
  split
  · rw [hx]
  · exact hf j
theorem sd_nar_b (x : Int32) : (vp_nar .byte x).toInt = x.toInt.bmod 256 := by
  show (x.toInt8.toInt32).toInt = _
  rw [Int8.toInt_toInt32, Int32.toInt_toInt8]
theorem sd_nar_z {x : Int32} {z : Int} (hx : x.toInt = z) (hz : z = 0 ∨ z = 1) : (vp_nar .boolean x).toInt = z := by
  rcases hz with h | h
  · have : x = 0 := Int32.toInt_inj.mp (by rw [hx, h]; rfl)
    subst this; subst h; decide
  · have : x = 1 := Int32.toInt_inj.mp (by rw [hx, h]; rfl)
    subst this; subst h; decide
theorem sd_clamp (x : Int32) : x.toNatClampNeg = x.toInt.toNat := rfl
section SdSim
variable {p : Program} {l : Launch} {e : Env} {R : Room} {s : State} {m : MethodId} {args : Array Value} {below : List Frame} {meth : Method} {c : Code} {D : va_G} {A : Nat → Prop} {as0 : List Nat} {nL : Nat} {Q : State → Prop} {cc : ByteArray} {o : Nat} {ini : Bool} {F F1 : sd_F}
/-- an element of an array is written -/
theorem sd_K_ast {kk : Nat → sd_V → Option sd_V}
    (row : ∀ (ws : va_W) (H : Heap) (locs : List Loc) (k n : Nat) (ls : Array Slot) (rest : List Value) (a q t N : Nat) (f : Nat → sd_V) (e2 : va_E) (i : Int32) (v u : sd_V) (w : Value), sd_RW s F.2.2.2.1 ws → va_P D vwCl ws H → va_D A ws → va_S A s.heap H locs → ws[a]? = some (q, e2) → sd_RC s (ws.map (fun q => q.1)) (.inr (t, N, f)) e2 → sd_R (ws.map (fun q => q.1)) v w → kk t v = some u → sd_in i.toInt N = true → (∀ (e3 : va_E) (H1 : Heap) (locs1 : List Loc), sd_RC s (ws.map (fun q => q.1)) (.inr (t, N, sd_up f i.toInt.toNat u)) e3 → va_P D vwCl (ws.set a (q, e3)) H1 → va_D A (ws.set a (q, e3)) → va_S A s.heap H1 locs1 → W p l e R s m args below meth c H1 locs1 k n Q (F0 m (F.1 + 1) ls rest)) → W p l e R s m args below meth c H locs k n Q (F0 m F.1 ls (w :: .int i :: .ref q :: rest)))
    (h : sd_ast kk F = some (.inl F1)) : sd_K p l e R s m args below meth c D A as0 nL Q F F1 := by
  unfold sd_ast at h
  split at h
  · rename_i v i a r heq
    split at h
    · rename_i t n f he
      split at h
      · rename_i u hu
        obtain ⟨hin, h2⟩ := sd_if h
        clear h
        cases h2
        refine ⟨Nat.le_refl _, Nat.le_refl _, fun _ _ hT ws H locs ls cst lv hW hP hD hS hE hst hlv hls => ?_⟩
        rw [heq] at hst
        obtain ⟨w, c1, rfl, hw1, hs1⟩ := sd_RL_v hst
        obtain ⟨ci, c2, rfl, hi, hs2⟩ := sd_RL_i hs1
        obtain ⟨q, cr, rfl, hq, hr⟩ := sd_RL_r hs2
        obtain ⟨e2, hw, hc⟩ := sd_RW_get hW he hq
        subst hi
        refine row ws H locs _ _ ls cr a q t n f e2 ci v u w hW hP hD hS hw hc hw1 hu hin fun e3 H1 locs1 hc3 hP1 hD1 hS1 => ?_
        refine hT _ H1 locs1 ls cr lv (sd_RW_set hW hw hc3) hP1 hD1 hS1 ?_ ?_ ?_ hls
        · rw [sd_as_set hw]; exact hE
        · rw [sd_as_set hw]; exact hr
        · rw [sd_as_set hw]; exact hlv
      · cases h
    · cases h
  · cases h
theorem sd_K_iast (hx : p.tables.exec = Jvm.exec) (hb : c.code = cc) (hK : va_K D vwCl [] s) (hd : decode cc F.1 = .ok (.iastore, 1)) (h : sd_ast sd_kI F = some (.inl F1)) : sd_K p l e R s m args below meth c D A as0 nL Q F F1 := by
  refine sd_K_ast (fun ws H locs k n ls rest a q t N f e2 i v u w hW hP hD hS hw hc hv hu hin kk => ?_) h
  unfold sd_kI at hu
  split at hu
  · cases hu
    cases w <;> first | exact hv.elim | skip
    rcases e2 with ⟨cA, n, g | g | g | g | g⟩ | ⟨cj2, gs⟩ <;> first | exact hc.elim | skip
    · obtain ⟨rfl, ⟨ty, har, (⟨-, rfl⟩ | ⟨h0, -⟩ | ⟨h0, -⟩)⟩, hf⟩ := hc
      · refine va_iast (D := D) hx hb (sd_AR_K hK har) hP hD hS a 0 hw rfl (sd_vpin hin) hd fun H1 locs1 hP1 hD1 hS1 => kk _ H1 locs1 ?_ hP1 hD1 hS1
        exact ⟨rfl, ⟨_, har, Or.inl ⟨rfl, rfl⟩⟩, sd_up_i hf _ hv⟩
      · cases h0
      · cases h0
    · obtain ⟨-, -, h0, -⟩ := hc
      cases h0
    · obtain ⟨-, ⟨ci, q, -, h0, -⟩, -⟩ := hc
      omega
  · cases hu
theorem sd_K_last (hx : p.tables.exec = Jvm.exec) (hb : c.code = cc) (hK : va_K D vwCl [] s) (hd : decode cc F.1 = .ok (.lastore, 1)) (h : sd_ast sd_kL F = some (.inl F1)) : sd_K p l e R s m args below meth c D A as0 nL Q F F1 := by
  refine sd_K_ast (fun ws H locs k n ls rest a q t N f e2 i v u w hW hP hD hS hw hc hv hu hin kk => ?_) h
  unfold sd_kL at hu
  split at hu
  · cases hu
    cases w <;> first | exact hv.elim | skip
    rcases e2 with ⟨cA, n, g | g | g | g | g⟩ | ⟨cj2, gs⟩ <;> first | exact hc.elim | skip
    · obtain ⟨rfl, ⟨ty, har, (⟨h0, -⟩ | ⟨h0, -⟩ | ⟨h0, -⟩)⟩, hf⟩ := hc <;> cases h0
    · obtain ⟨rfl, har, -, hf⟩ := hc
      refine va_last (D := D) hx hb (sd_AR_K hK har) hP hD hS a 0 hw rfl (sd_vpin hin) hd fun H1 locs1 hP1 hD1 hS1 => kk _ H1 locs1 ?_ hP1 hD1 hS1
      exact ⟨rfl, har, rfl, sd_up_l hf _ hv⟩
    · obtain ⟨-, ⟨ci, q, -, h0, -⟩, -⟩ := hc
      omega
  · cases hu
theorem sd_K_bast (hx : p.tables.exec = Jvm.exec) (hb : c.code = cc) (hK : va_K D vwCl [] s) (hd : decode cc F.1 = .ok (.bastore, 1)) (h : sd_ast sd_kB F = some (.inl F1)) : sd_K p l e R s m args below meth c D A as0 nL Q F F1 := by
  refine sd_K_ast (fun ws H locs k n ls rest a q t N f e2 i v u w hW hP hD hS hw hc hv hu hin kk => ?_) h
  unfold sd_kB at hu
  split at hu
  · cases hu
    cases w <;> first | exact hv.elim | skip
    rcases e2 with ⟨cA, n, g | g | g | g | g⟩ | ⟨cj2, gs⟩ <;> first | exact hc.elim | skip
    · obtain ⟨rfl, ⟨ty, har, (⟨h0, rfl⟩ | ⟨h0, rfl⟩ | ⟨h0, rfl⟩)⟩, hf⟩ := hc
      · cases h0
      · refine va_bast (D := D) hx hb (sd_AR_K hK har) hP hD hS a 0 hw rfl (sd_vpin hin) hd fun H1 locs1 hP1 hD1 hS1 => kk _ H1 locs1 ?_ hP1 hD1 hS1
        exact ⟨rfl, ⟨_, har, Or.inr (Or.inl ⟨rfl, rfl⟩)⟩, sd_up_i hf _ (by rw [sd_nar_b]; rw [show _ = _ from hv])⟩
      · cases h0
    · obtain ⟨-, -, h0, -⟩ := hc
      cases h0
    · obtain ⟨-, ⟨ci, q, -, h0, -⟩, -⟩ := hc
      omega
  · obtain ⟨hz, hu2⟩ := sd_if hu
    clear hu
    cases hu2
    cases w <;> first | exact hv.elim | skip
    rcases e2 with ⟨cA, n, g | g | g | g | g⟩ | ⟨cj2, gs⟩ <;> first | exact hc.elim | skip
    · obtain ⟨rfl, ⟨ty, har, (⟨h0, rfl⟩ | ⟨h0, rfl⟩ | ⟨h0, rfl⟩)⟩, hf⟩ := hc
      · cases h0
      · cases h0
      · refine va_zast (D := D) hx hb (sd_AR_K hK har) hP hD hS a 0 hw rfl (sd_vpin hin) hd fun H1 locs1 hP1 hD1 hS1 => kk _ H1 locs1 ?_ hP1 hD1 hS1
        exact ⟨rfl, ⟨_, har, Or.inr (Or.inr ⟨rfl, rfl⟩)⟩, sd_up_i hf _ (sd_nar_z hv hz)⟩
    · obtain ⟨-, -, h0, -⟩ := hc
      cases h0
    · obtain ⟨-, ⟨ci, q, -, h0, -⟩, -⟩ := hc
      omega
  · cases hu
theorem sd_K_aast (hx : p.tables.exec = Jvm.exec) (hb : c.code = cc) (hK : va_K D vwCl [] s) (hd : decode cc F.1 = .ok (.aastore, 1)) (h : sd_ast (sd_kA F.2.2.2.1) F = some (.inl F1)) : sd_K p l e R s m args below meth c D A as0 nL Q F F1 := by
  refine sd_K_ast (fun ws H locs k n ls rest a q t N f e2 i v u w hW hP hD hS hw hc hv hu hin kk => ?_) h
  unfold sd_kA at hu
  split at hu
  · rename_i b
    split at hu
    · rename_i ci fs hb2
      obtain ⟨ht, hu2⟩ := sd_if hu
      clear hu
      cases hu2
      cases w <;> first | exact hv.elim | skip
      rename_i qb
      obtain ⟨e4, hw4, hc4⟩ := sd_RW_get hW hb2 hv
      rcases e4 with ⟨cA, n, g | g | g | g | g⟩ | ⟨cj4, gs4⟩ <;> first | exact hc4.elim | skip
      obtain ⟨rfl, hfs4⟩ := hc4
      rcases e2 with ⟨cA, n, g | g | g | g | g⟩ | ⟨cj2, gs⟩ <;> first | exact hc.elim | skip
      · obtain ⟨rfl, ⟨ty, har, (⟨h0, rfl⟩ | ⟨h0, rfl⟩ | ⟨h0, rfl⟩)⟩, hf⟩ := hc <;> omega
      · obtain ⟨-, -, h0, -⟩ := hc
        omega
      · obtain ⟨rfl, ⟨ci2, qc, hqc, h0, har⟩, hf⟩ := hc
        have hci : ci2 = ci := by omega
        subst hci
        refine va_astq (D := D) (r := qc) hx hb (sd_AR_K hK har) hP hD hS a 0 b ci2 hw rfl hw4 hqc (sd_vpin hin) hd fun H1 locs1 hP1 hD1 hS1 => kk _ H1 locs1 ?_ hP1 hD1 hS1
        refine ⟨rfl, ⟨ci2, qc, hqc, h0, har⟩, fun j => ?_⟩
        unfold sd_up va_up
        rw [sd_clamp]
        split
        · exact hv
        · exact hf j
    · cases hu
  · cases hu
end SdSim
