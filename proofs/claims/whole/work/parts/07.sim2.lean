/-! steps that touch cells -/
theorem sd_fit_ok {as : List Nat} {ty : FieldType} {v : sd_V} {w : Value} (h : sd_fit ty v = true) (hr : sd_R as v w) : narrow ty w = w ∧ fits ty w = true := by
  cases ty <;> rcases v with z | z | _ | a <;> first | (exact absurd (show (false : Bool) = true from h) Bool.false_ne_true) | skip
  all_goals cases w <;> first | exact hr.elim | exact ⟨rfl, rfl⟩ | skip
  rename_i x
  simp only [sd_fit, decide_eq_true_eq] at h
  have hz : x.toInt = z := hr
  rcases h with h | h
  · have : x = 0 := Int32.toInt_inj.mp (by rw [hz, h]; rfl)
    subst this; exact ⟨by decide, by decide⟩
  · have : x = 1 := Int32.toInt_inj.mp (by rw [hz, h]; rfl)
    subst this; exact ⟨by decide, by decide⟩
theorem sd_dv_ok {as : List Nat} {ty : FieldType} (h : sd_tk ty = true) : sd_R as (sd_dv ty) (defaultValue ty) := by
  cases ty <;> first | (exact absurd (show (false : Bool) = true from h) Bool.false_ne_true) | exact trivial | rfl
theorem sd_RL_map {as : List Nat} {f : Nat → sd_V} {g : Nat → Value} : ∀ {l : List Nat}, (∀ k ∈ l, sd_R as (f k) (g k)) → sd_RL as (l.map f) (l.map g)
  | [], _ => trivial
  | _ :: _, h => ⟨h _ List.mem_cons_self, sd_RL_map fun k hk => h k (List.mem_cons_of_mem _ hk)⟩
section SdSim
variable {p : Program} {l : Launch} {e : Env} {R : Room} {s : State} {m : MethodId} {args : Array Value} {below : List Frame} {meth : Method} {c : Code} {D : va_G} {A : Nat → Prop} {as0 : List Nat} {nL : Nat} {Q : State → Prop} {cc : ByteArray} {o : Nat} {ini : Bool} {F F1 : sd_F}
theorem sd_K_get (hx : p.tables.exec = Jvm.exec) (hb : c.code = cc) (hown : s.vm.findClass (sd_cn o) = some m.cls) (hts : ∀ w ∈ sd_G, w.before args s = true) (hK : va_K D vwCl [] s) {i : Nat} (hd : decode cc F.1 = .ok (.getfield i, 3)) (h : sd_get o F i = some (.inl F1)) : sd_K p l e R s m args below meth c D A as0 nL Q F F1 := by
  unfold sd_get at h
  split at h
  · rename_i ci k a r hl heq
    split at h
    · rename_i cj fs he
      obtain ⟨hcj, h2⟩ := sd_if h
      clear h
      subst hcj
      split at h2
      · rename_i v hv
        cases h2
        refine ⟨Nat.le_refl _, Nat.le_refl _, fun _ _ hT ws H locs ls cst lv hW hP hD hS hE hst hlv hls => ?_⟩
        rw [heq] at hst
        obtain ⟨q, cr, rfl, hq, hr⟩ := sd_RL_r hst
        obtain ⟨e2, hw, hc⟩ := sd_RW_get hW he hq
        rcases e2 with ⟨cA, n, g | g | g | g | g⟩ | ⟨cj2, gs⟩ <;> first | exact hc.elim | skip
        obtain ⟨rfl, hfs⟩ := hc
        obtain ⟨w, hgw, hrw⟩ := sd_RL_get hfs hv
        obtain ⟨⟨C, T, N⟩, hqc, hkN, hlink⟩ := sd_fl_ok _ _ _ _ hl
        obtain ⟨hin, hty, hnm, hcn, hdecl⟩ := sd_cls_ok _ _ hqc
        refine va_get (D := D) hx hb hts hin hown hK hP a hw hqc k hkN (hts _ hlink) (fun x hx => by rw [hdecl k hkN] at hx; exact hx) hgw hd ?_
        exact hT ws H locs ls _ lv hW hP hD hS hE ⟨hrw, hr⟩ hlv hls
      · cases h2
    · cases h
  · cases h
theorem sd_K_put (hx : p.tables.exec = Jvm.exec) (hb : c.code = cc) (hown : s.vm.findClass (sd_cn o) = some m.cls) (hts : ∀ w ∈ sd_G, w.before args s = true) (hK : va_K D vwCl [] s) (hini : ini = true → meth.name = "<init>") {i : Nat} (hd : decode cc F.1 = .ok (.putfield i, 3)) (h : sd_put o ini F i = some (.inl F1)) : sd_K p l e R s m args below meth c D A as0 nL Q F F1 := by
  unfold sd_put at h
  split at h
  · rename_i ci k v a r hl heq
    split at h
    · rename_i cj fs he
      obtain ⟨⟨hcj, hlen, hfit, hfin⟩, h2⟩ := sd_if h
      clear h
      subst hcj
      cases h2
      refine ⟨Nat.le_refl _, Nat.le_refl _, fun _ _ hT ws H locs ls cst lv hW hP hD hS hE hst hlv hls => ?_⟩
      rw [heq] at hst
      obtain ⟨w, c1, rfl, hw1, hs1⟩ := sd_RL_v hst
      obtain ⟨q, cr, rfl, hq, hr⟩ := sd_RL_r hs1
      obtain ⟨e2, hw, hc⟩ := sd_RW_get hW he hq
      rcases e2 with ⟨cA, n, g | g | g | g | g⟩ | ⟨cj2, gs⟩ <;> first | exact hc.elim | skip
      obtain ⟨rfl, hfs⟩ := hc
      obtain ⟨⟨C, T, N⟩, hqc, hkN, hlink⟩ := sd_fl_ok _ _ _ _ hl
      obtain ⟨hin, hty, hnm, hcn, hdecl⟩ := sd_cls_ok _ _ hqc
      obtain ⟨hn1, hn2⟩ := sd_fit_ok hfit hw1
      have hgl : k < gs.length := by rw [sd_RL_len hfs]; exact hlen
      have hfe : sd_fin cj k = (T k).2.2.2 := by simp [sd_fin, hqc]
      have key : ∀ (H1 : Heap) (locs1 : List Loc), va_P D vwCl (ws.set a (q, .inr (cj, gs.set k w))) H1 → va_D A (ws.set a (q, .inr (cj, gs.set k w))) → va_S A s.heap H1 locs1 → W p l e R s m args below meth c H1 locs1 F.2.2.2.2.1 F.2.2.2.2.2 Q (F0 m (F.1 + 3) ls cr) := by
        intro H1 locs1 hP1 hD1 hS1
        refine hT _ H1 locs1 ls cr lv (sd_RW_set (e2 := .inr (cj, gs.set k w)) hW hw ⟨rfl, sd_RL_set hfs hw1⟩) hP1 hD1 hS1 ?_ ?_ ?_ hls
        · rw [sd_as_set hw]; exact hE
        · rw [sd_as_set hw]; exact hr
        · rw [sd_as_set hw]; exact hlv
      by_cases hf : (T k).2.2.2 = false
      · exact va_put (D := D) hx hb hts hin (sd_ty cj) hty hnm hown hK hP hD hS a hw hqc k hkN (hts _ hlink) (fun x hx => by rw [hdecl k hkN] at hx; exact hx) hf (hty k hkN) hn1 hn2 hgl hd key
      · rw [hfe] at hfin
        rcases hfin with h0 | ⟨h0, h1⟩
        · exact absurd h0 hf
        · subst h1
          exact va_putF (D := D) hx hb hts hin (sd_ty cj) hty hnm hown hK hP hD hS a hw hqc k hkN (hts _ hlink) (fun x hx => by rw [hdecl k hkN] at hx; exact hx) (by simpa using hf) (hini h0) ((hdecl k hkN).trans hcn) (hty k hkN) hn1 hn2 hgl hd key
    · cases h
  · cases h
/-- an element of an array -/
theorem sd_K_ald {kk : Nat → Bool}
    (row : ∀ (ws : va_W) (H : Heap) (locs : List Loc) (k n : Nat) (ls : Array Slot) (rest : List Value) (a q t N : Nat) (f : Nat → sd_V) (e2 : va_E) (i : Int32), va_P D vwCl ws H → ws[a]? = some (q, e2) → sd_RC s (ws.map (fun q => q.1)) (.inr (t, N, f)) e2 → kk t = true → sd_in i.toInt N = true → (∀ w : Value, sd_R (ws.map (fun q => q.1)) (f i.toInt.toNat) w → W p l e R s m args below meth c H locs k n Q (F0 m (F.1 + 1) ls (w :: rest))) → W p l e R s m args below meth c H locs k n Q (F0 m F.1 ls (.int i :: .ref q :: rest)))
    (h : sd_ald kk F = some (.inl F1)) : sd_K p l e R s m args below meth c D A as0 nL Q F F1 := by
  unfold sd_ald at h
  split at h
  · rename_i i a r heq
    split at h
    · rename_i t n f he
      obtain ⟨⟨hk, hin⟩, h⟩ := sd_if h
      cases h
      refine ⟨Nat.le_refl _, Nat.le_refl _, fun _ _ hT ws H locs ls cst lv hW hP hD hS hE hst hlv hls => ?_⟩
      rw [heq] at hst
      obtain ⟨ci, c1, rfl, hi, hs1⟩ := sd_RL_i hst
      obtain ⟨q, cr, rfl, hq, hr⟩ := sd_RL_r hs1
      obtain ⟨e2, hw, hc⟩ := sd_RW_get hW he hq
      subst hi
      exact row ws H locs _ _ ls cr a q t n f e2 ci hP hw hc hk hin fun w hw2 => hT ws H locs ls _ lv hW hP hD hS hE ⟨hw2, hr⟩ hlv hls
    · cases h
  · cases h
theorem sd_K_iald (hx : p.tables.exec = Jvm.exec) (hb : c.code = cc) (hK : va_K D vwCl [] s) (hd : decode cc F.1 = .ok (.iaload, 1)) (h : sd_ald (fun t => t == 0) F = some (.inl F1)) : sd_K p l e R s m args below meth c D A as0 nL Q F F1 := by
  refine sd_K_ald (fun ws H locs k n ls rest a q t N f e2 i hP hw hc hk hin kk => ?_) h
  have ht : t = 0 := by simpa using hk
  subst ht
  rcases e2 with ⟨cA, n, g | g | g | g | g⟩ | ⟨cj2, gs⟩ <;> first | exact hc.elim | skip
  · obtain ⟨rfl, ⟨ty, har, (⟨-, rfl⟩ | ⟨h0, -⟩ | ⟨h0, -⟩)⟩, hf⟩ := hc
    · exact va_iald (D := D) hx hb (sd_AR_K hK har) hP a 0 hw rfl (sd_vpin hin) hd (kk _ (by rw [hf]; rfl))
    · cases h0
    · cases h0
  · obtain ⟨-, -, h0, -⟩ := hc
    cases h0
  · obtain ⟨-, ⟨ci, q, -, h0, -⟩, -⟩ := hc
    omega
theorem sd_K_lald (hx : p.tables.exec = Jvm.exec) (hb : c.code = cc) (hK : va_K D vwCl [] s) (hd : decode cc F.1 = .ok (.laload, 1)) (h : sd_ald (fun t => t == 1) F = some (.inl F1)) : sd_K p l e R s m args below meth c D A as0 nL Q F F1 := by
  refine sd_K_ald (fun ws H locs k n ls rest a q t N f e2 i hP hw hc hk hin kk => ?_) h
  have ht : t = 1 := by simpa using hk
  subst ht
  rcases e2 with ⟨cA, n, g | g | g | g | g⟩ | ⟨cj2, gs⟩ <;> first | exact hc.elim | skip
  · obtain ⟨rfl, ⟨ty, har, (⟨h0, -⟩ | ⟨h0, -⟩ | ⟨h0, -⟩)⟩, hf⟩ := hc <;> cases h0
  · obtain ⟨rfl, har, -, hf⟩ := hc
    exact va_lald (D := D) hx hb (sd_AR_K hK har) hP a 0 hw rfl (sd_vpin hin) hd (kk _ (by rw [hf]; rfl))
  · obtain ⟨-, ⟨ci, q, -, h0, -⟩, -⟩ := hc
    omega
theorem sd_K_bald (hx : p.tables.exec = Jvm.exec) (hb : c.code = cc) (hK : va_K D vwCl [] s) (hd : decode cc F.1 = .ok (.baload, 1)) (h : sd_ald (fun t => t == 2 || t == 3) F = some (.inl F1)) : sd_K p l e R s m args below meth c D A as0 nL Q F F1 := by
  refine sd_K_ald (fun ws H locs k n ls rest a q t N f e2 i hP hw hc hk hin kk => ?_) h
  have ht : t = 2 ∨ t = 3 := by simpa using hk
  rcases e2 with ⟨cA, n, g | g | g | g | g⟩ | ⟨cj2, gs⟩ <;> first | exact hc.elim | skip
  · obtain ⟨rfl, ⟨ty, har, (⟨h0, rfl⟩ | ⟨h0, rfl⟩ | ⟨h0, rfl⟩)⟩, hf⟩ := hc
    · omega
    · exact va_bald (D := D) hx hb (sd_AR_K hK har) hP a 0 hw rfl (sd_vpin hin) hd (kk _ (by rw [hf]; rfl))
    · exact va_zald (D := D) hx hb (sd_AR_K hK har) hP a 0 hw rfl (sd_vpin hin) hd (kk _ (by rw [hf]; rfl))
  · obtain ⟨-, -, h0, -⟩ := hc
    omega
  · obtain ⟨-, ⟨ci, q, -, h0, -⟩, -⟩ := hc
    omega
theorem sd_K_aald (hx : p.tables.exec = Jvm.exec) (hb : c.code = cc) (hK : va_K D vwCl [] s) (hd : decode cc F.1 = .ok (.aaload, 1)) (h : sd_ald (fun t => decide (4 ≤ t)) F = some (.inl F1)) : sd_K p l e R s m args below meth c D A as0 nL Q F F1 := by
  refine sd_K_ald (fun ws H locs k n ls rest a q t N f e2 i hP hw hc hk hin kk => ?_) h
  have ht : 4 ≤ t := by simpa using hk
  rcases e2 with ⟨cA, n, g | g | g | g | g⟩ | ⟨cj2, gs⟩ <;> first | exact hc.elim | skip
  · obtain ⟨rfl, ⟨ty, har, (⟨h0, rfl⟩ | ⟨h0, rfl⟩ | ⟨h0, rfl⟩)⟩, hf⟩ := hc <;> omega
  · obtain ⟨-, -, h0, -⟩ := hc
    omega
  · obtain ⟨rfl, ⟨ci, qc, -, h0, har⟩, hf⟩ := hc
    exact va_aldq (D := D) hx hb (sd_AR_K hK har) hP a 0 hw rfl (sd_vpin hin) hd (kk _ (hf _))
end SdSim
