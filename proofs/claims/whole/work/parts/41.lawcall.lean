/-! a call in the law -/
section SdLaw
variable {p : Program} {l : Launch} {e : Env} {s : State} {m : MethodId} {below : List Frame} {meth : Method} {c : Code} {b L : Nat} {xs : Nat → Int32} {D : va_G} {Q : State → Prop}
abbrev sd_LA (s : State) : Nat → Prop := fun q => s.heap.size ≤ q
theorem sd_goodl {q : sd_MI} (h : sd_mok q) : GoodIn lw_tbl (sd_wm q) := fun w hw => ⟨sd_Gt w (sd_goodm h w hw).1, (sd_goodm h w hw).2⟩
theorem sd_ints {as : List Nat} : ∀ (As : List Int32), sd_RL as (As.map (fun x => .inl x.toInt)) (As.map Value.int)
  | [] => trivial
  | _ :: l => ⟨rfl, sd_ints l⟩
theorem sd_lfree {ws : va_W} {H : Heap} {locs : List Loc} (hD : va_D (sd_LA s) ws) (hS : va_S (sd_LA s) s.heap H locs) : ∀ q, va_A ws H.size q → sd_LA s q := by
  rintro q (⟨k2, e2, h2⟩ | h2)
  · exact hD.2 k2 _ h2
  · exact Nat.le_trans hS.1 h2
/-- behind a call -/
theorem sd_lafter {ws : va_W} {H : Heap} {locs : List Loc} {cells slots pc : Nat} {ls : Array Slot} {st0 rest : List Value} {Ra : sd_A} {a : Array Value} (hD : va_D (sd_LA s) ws) (hS : va_S (sd_LA s) s.heap H locs)
    (hrun : va_Run p l e room_1 s m #[Value.ref b] below meth c H locs cells slots Ra.2.2.1 Ra.2.2.2 (F0 m pc ls st0) rest (sd_Qc D ws H.size Ra a) (va_A ws H.size))
    (kk : ∀ (v : Option Value) (ws2 : va_W) (H1 : Heap) (locs1 : List Loc), sd_RO (ws2.map (fun q => q.1)) Ra.1 v → sd_RW s Ra.2.1 ws2 → va_P D vwCl ws2 H1 → va_D (sd_LA s) ws2 → va_S (sd_LA s) s.heap H1 locs1 → (∃ ex, ws2.map (fun q => q.1) = ws.map (fun q => q.1) ++ ex) → W p l e room_1 s m #[Value.ref b] below meth c H1 locs1 (cells + Ra.2.2.1) (slots + Ra.2.2.2) Q (F0 m (pc + 3) ls (v.toList ++ rest))) : W p l e room_1 s m #[Value.ref b] below meth c H locs cells slots Q (F0 m pc ls st0) := by
  have hAF := sd_lfree hD hS
  intro T hT2 X
  obtain ⟨v, st₀, t, T', L, h0, X', hL, e1, e2, hqc, st⟩ := hrun T hT2 X
  obtain ⟨⟨rv, ws2, hv, hRO, hW2, hex, hP2, hK2, hD2⟩, hz, hk2⟩ := hqc
  cases hv
  rw [h0] at hz hk2
  have hal : t.vm.Alike s.vm := by rw [← e2]; exact X'.warmed.alike.symm
  have k2 := kk v ws2 T'.heap (locs ++ L) hRO (sd_RW_mv hal hW2) (by rw [e1]; exact hP2) (hD2.weaken (fun k3 q3 _ h3 => hAF q3.1 h3))
    ⟨Nat.le_trans hS.1 (by rw [e1]; exact hz), fun q h1 h2 => by rw [e1, hk2 q (Nat.lt_of_lt_of_le h1 hS.1) (fun z => h2 (hAF q z))]; exact hS.2.1 q h1 h2, fun q hq3 => by
      rcases List.mem_append.mp hq3 with h3 | h3
      · exact hS.2.2 q h3
      · exact hAF _ (hL q h3)⟩ hex
  obtain ⟨t2, a1, b1⟩ := k2 T' rfl X'
  exact ⟨t2, st t2 a1, b1⟩
theorem sd_RO_i {as : List Nat} {r : Int} {v : Option Value} (h : sd_RO as (some (.inl r)) v) : ∃ rv : Int32, v = some (.int rv) ∧ rv.toInt = r := by
  cases v with
  | none => exact h.elim
  | some w => cases w <;> first | exact ⟨_, rfl, h⟩ | exact h.elim
theorem sd_lcall (C0 : lw_At p s m meth c b L xs) (hX : ∀ d j As E Ra, sd_X j As E Ra → sd_Snd l d j As E Ra) (hK : va_K D vwCl [] s) (hN : sd_NW s) (hSS : sd_SS (sd_LA s) s s.heap) {M M2 : sd_M} {r : Int} {j index a : Nat} {q : sd_MI} (As : List Int32) (hq : sd_mL[j]? = some q)
    (w1 : Cond.methodLink R_law index q.1 ∈ lw_tbl) (w2 : Cond.instanceMethod q.1 ∈ lw_tbl) (w3 : Cond.selects q.1.cls q.1 q.1 ∈ lw_tbl) (w4 : Cond.initialized q.1.cls ∈ lw_tbl) (hn : As.length = q.2.2.2.2.2.1) (ho : sd_o a q.2.2.2.2.1)
    (hC : sd_Cal sd_X 61 j (.inr (.inr (some a)) :: As.map (fun x => .inl x.toInt)) (sd_rp M) (some (.inl r), sd_rp M2, 0, 0))
    {ws : va_W} {H : Heap} {locs : List Loc} {cells slots pc qa : Nat} {ls : Array Slot} {st0 rest : List Value} (hW : sd_RW s (sd_rp M) ws) (hP : va_P D vwCl ws H) (hD : va_D (sd_LA s) ws) (hS : va_S (sd_LA s) s.heap H locs) (hqa : (ws.map (fun q => q.1))[a]? = some qa) (hls : ls.size = 4) (h8 : (rest.map fun v => v.category).sum ≤ 8) (hdg : decode code pc = .ok (.invokevirtual index, 3)) (hc : cells ≤ room_1.cells ∧ slots ≤ room_1.slots) (hst : st0 = (As.map Value.int).reverse ++ .ref qa :: rest)
    (kk : ∀ (rv : Int32) (ws2 : va_W) (H1 : Heap) (locs1 : List Loc), rv.toInt = r → sd_RW s (sd_rp M2) ws2 → va_P D vwCl ws2 H1 → va_D (sd_LA s) ws2 → va_S (sd_LA s) s.heap H1 locs1 → (∃ ex, ws2.map (fun q => q.1) = ws.map (fun q => q.1) ++ ex) → W p l e room_1 s m #[Value.ref b] below meth c H1 locs1 cells slots Q (F0 m (pc + 3) ls (.int rv :: rest))) : W p l e room_1 s m #[Value.ref b] below meth c H locs cells slots Q (F0 m pc ls st0) := by
  obtain ⟨hx, hb, hr, hml, hown, hts, -, -, -, -⟩ := C0
  have hmok := sd_mL_ok _ _ hq
  have hgood := sd_goodl hmok
  obtain ⟨hcode, hpl, hcls, hd3, hmax, -⟩ := hmok
  have hM := sd_sound hX 60 j _ _ _ hC q hq D ws H.size (Value.ref qa :: As.map Value.int) ⟨hqa, sd_ints As⟩
  have hpre := sd_pre (cav := Value.ref qa :: As.map Value.int) hW hP hD hK hN hSS hS (sd_lfree hD hS)
  have he0 : (sd_rp M)[a]? = some (sd_mk (sd_ob a q.2.2.2.2.1) (M a)) := by rw [sd_rp_get, ho]; rfl
  obtain ⟨e2, hw2, hc2⟩ := sd_RW_get hW he0 hqa
  rcases e2 with ⟨cA, n, g | g | g | g | g⟩ | ⟨cj2, gs⟩ <;> first | exact hc2.elim | skip
  obtain ⟨hcj, -⟩ := hc2
  refine sd_lafter (Ra := (some (.inl r), sd_rp M2, 0, 0)) hD hS (va_runV (C := q.1.cls) (As := As.map Value.int) (rest := rest) (n := q.2.2.2.2.2.1) ⟨hx, hb, hml, hown, hts⟩ hM ⟨callB_of _ hts hgood rfl rfl rfl (hts _ w4) (hts _ w1) hd3 ?_, hts _ w2, hts _ w3⟩ ⟨sd_blind, ?_, hpre⟩ rfl (by rw [List.length_map]; exact hn) hls hst (lv_room h8) hdg hc) (fun v ws2 H1 locs1 hRO hW2 hP2 hD2 hS2 hex => ?_)
  · refine ⟨?_, ?_⟩
    · show 60 + 4 + 1 ≤ 2048
      decide
    · show 8 + (q.2.2.1 + 11) + (32 * 60 + 128) ≤ 84000
      omega
  · have hvc : ∃ qv, vwCl[cj2]? = some qv := by
      obtain ⟨rv, h3, -⟩ := hP a _ hw2
      exact ⟨rv, h3⟩
    obtain ⟨qv, hqv⟩ := hvc
    have := va_recv hK hP hqv hw2
    rw [(sd_cls_ok _ _ hqv).2.2.2.1, ← hcj, ← hcls] at this
    exact this
  · dsimp only at hRO hW2 ⊢
    obtain ⟨rv, rfl, hrv⟩ := sd_RO_i hRO
    exact kk rv ws2 H1 locs1 hrv hW2 hP2 hD2 hS2 hex
theorem sd_linit (C0 : lw_At p s m meth c b L xs) (hX : ∀ d j As E Ra, sd_X j As E Ra → sd_Snd l d j As E Ra) (hK : va_K D vwCl [] s) (hN : sd_NW s) (hSS : sd_SS (sd_LA s) s s.heap) {E E2 : List sd_E} {kc ks j index a : Nat} {q : sd_MI} (hq : sd_mL[j]? = some q)
    (w1 : Cond.methodLink R_law index q.1 ∈ lw_tbl) (w2 : Cond.instanceMethod q.1 ∈ lw_tbl) (w4 : Cond.initialized q.1.cls ∈ lw_tbl) (hn : q.2.2.2.2.2.1 = 0) (hnm : q.1.name = "<init>") (hrt : q.2.2.2.1 = none)
    (hC : sd_Cal sd_X 61 j [.inr (.inr (some a))] E (none, E2, kc, ks))
    {ws : va_W} {H : Heap} {locs : List Loc} {cells slots pc qa : Nat} {ls : Array Slot} {rest : List Value} (hW : sd_RW s E ws) (hP : va_P D vwCl ws H) (hD : va_D (sd_LA s) ws) (hS : va_S (sd_LA s) s.heap H locs) (hqa : (ws.map (fun q => q.1))[a]? = some qa) (hls : ls.size = 4) (h8 : (rest.map fun v => v.category).sum ≤ 8) (hdg : decode code pc = .ok (.invokespecial index, 3)) (hc : cells + kc ≤ room_1.cells ∧ slots + ks ≤ room_1.slots)
    (kk : ∀ (ws2 : va_W) (H1 : Heap) (locs1 : List Loc), sd_RW s E2 ws2 → va_P D vwCl ws2 H1 → va_D (sd_LA s) ws2 → va_S (sd_LA s) s.heap H1 locs1 → (∃ ex, ws2.map (fun q => q.1) = ws.map (fun q => q.1) ++ ex) → W p l e room_1 s m #[Value.ref b] below meth c H1 locs1 (cells + kc) (slots + ks) Q (F0 m (pc + 3) ls rest)) : W p l e room_1 s m #[Value.ref b] below meth c H locs cells slots Q (F0 m pc ls (.ref qa :: rest)) := by
  obtain ⟨hx, hb, hr, hml, hown, hts, -, -, -, -⟩ := C0
  have hmok := sd_mL_ok _ _ hq
  have hgood := sd_goodl hmok
  obtain ⟨hcode, hpl, hcls, hd3, hmax, -⟩ := hmok
  have hM := sd_sound hX 60 j _ _ _ hC q hq D ws H.size [Value.ref qa] ⟨hqa, trivial⟩
  have hpre := sd_pre (cav := [Value.ref qa]) hW hP hD hK hN hSS hS (sd_lfree hD hS)
  obtain ⟨yq, bq, mq, rq, oq, nq, tq⟩ := q
  dsimp only at hrt hn
  subst hrt
  subst hn
  refine sd_lafter (Ra := (none, E2, kc, ks)) hD hS (va_runI (As := []) (rest := rest) (n := 0) ⟨hx, hb, hml, hown, hts⟩ hM ⟨callB_of _ hts hgood rfl rfl rfl (hts _ w4) (hts _ w1) hd3 ?_, hnm, hts _ w2⟩ ⟨sd_blind, hpre⟩ rfl rfl hls rfl (lv_room h8) hdg hc) (fun v ws2 H1 locs1 hRO hW2 hP2 hD2 hS2 hex => ?_)
  · refine ⟨?_, ?_⟩
    · show 60 + 4 + 1 ≤ 2048
      decide
    · show 8 + (mq + 11) + (32 * 60 + 128) ≤ 84000
      have : mq ≤ 13 := hmax
      omega
  · cases v with
    | none => exact kk ws2 H1 locs1 hW2 hP2 hD2 hS2 hex
    | some w => exact hRO.elim
end SdLaw
