/-! calls, ends, and the whole: a run of our machine is a contract of the machine -/
def sd_rm (d : Nat) (Ra : sd_A) : Room := { frames := d + 4, cells := Ra.2.2.1, slots := Ra.2.2.2, locals := 32 * d + 128 }
def sd_Pc (D : va_G) (ws : va_W) (sz : Nat) (E : List sd_E) (cav : List Value) : Array Value → State → Prop := va_Pc cav (fun U => U.heap.size = sz ∧ sd_RW U E ws ∧ va_P D vwCl ws U.heap ∧ va_K D vwCl [] U ∧ va_D (fun _ => True) ws ∧ sd_NW U ∧ sd_SS (va_A ws sz) U U.heap)
def sd_RO (as : List Nat) (v : Option sd_V) (w : Option Value) : Prop := match v, w with
  | none, none => True
  | some v, some w => sd_R as v w
  | _, _ => False
def sd_Qc (D : va_G) (ws : va_W) (sz : Nat) (Ra : sd_A) : Array Value → State → Outcome → State → Prop := fun _ st oc t => (∃ (rv : Option Value) (ws2 : va_W), oc = .returned rv ∧ sd_RO (ws2.map (fun q => q.1)) Ra.1 rv ∧ sd_RW t Ra.2.1 ws2 ∧ (∃ ex, ws2.map (fun q => q.1) = ws.map (fun q => q.1) ++ ex) ∧ va_P D vwCl ws2 t.heap ∧ va_K D vwCl [] t ∧ va_D (va_A ws sz) ws2) ∧ va_F (va_A ws sz) st t
def sd_wm (q : sd_MI) : List Cond := Cond.code q.1 q.2.1 q.2.2.1 q.2.2.2.1 :: sd_G
/-- the contract of method j -/
def sd_Snd (l : Launch) (d j : Nat) (As : List sd_V) (E : List sd_E) (Ra : sd_A) : Prop := ∀ (q : sd_MI), sd_mL[j]? = some q → ∀ (D : va_G) (ws : va_W) (sz : Nat) (cav : List Value), sd_RL (ws.map (fun q => q.1)) As cav → Met l q.1 (sd_wm q) (sd_rm d Ra) (sd_Pc D ws sz E cav) (sd_Qc D ws sz Ra) Ra.2.2.1 Ra.2.2.2 (va_A ws sz)
theorem sd_blind {D : va_G} {ws : va_W} {sz : Nat} {E : List sd_E} {cav : List Value} : FrameBlind (sd_Pc D ws sz E cav) := by
  intro a U g mk q
  obtain ⟨q0, q1, q2, q3, q4, q5, q6, q7⟩ := q
  exact ⟨q0, q1, sd_RW_mv (U := U.calling g mk a) (Vm.Alike.refl U.vm) q2, q3, va_K.moved (u := U) (U := U.calling g mk a) (Vm.Alike.refl U.vm) q4, q5, sd_NW_s (U := U.calling g mk a) rfl q6, sd_SS_same (U := U.calling g mk a) rfl rfl q7⟩
theorem sd_goodm {q : sd_MI} (h : sd_mok q) : GoodIn sd_G (sd_wm q) := by
  intro w hw
  have : w ∈ sd_G := by
    rcases List.mem_cons.mp hw with h1 | h1
    · rw [h1]; exact h.1
    · exact h1
  exact ⟨this, sd_Gg w this⟩
section SdSim
variable {p : Program} {l : Launch} {e : Env} {R : Room} {s : State} {m : MethodId} {args : Array Value} {below : List Frame} {meth : Method} {c : Code} {D : va_G} {A : Nat → Prop} {as0 : List Nat} {nL : Nat} {Q : State → Prop} {cc : ByteArray} {o : Nat} {ini : Bool} {F F1 : sd_F}
theorem sd_pre {ws : va_W} {H : Heap} {locs : List Loc} {E : List sd_E} {cav : List Value} (hW : sd_RW s E ws) (hP : va_P D vwCl ws H) (hD : va_D A ws) (hK : va_K D vwCl [] s) (hN : sd_NW s) (hSS : sd_SS A s s.heap) (hS : va_S A s.heap H locs) (hAF : ∀ q, va_A ws H.size q → A q) : ∀ U : State, U.heap = H → s.WarmedH U.vm → sd_Pc D ws H.size E cav cav.toArray U := fun U hU hw =>
  ⟨rfl, by rw [hU], sd_RW_mv hw.alike hW, by rw [hU]; exact hP, va_K.moved hw.alike hK, hD.weaken (fun _ _ _ _ => trivial), sd_NW_w hw hN, sd_SS_call hSS hS hU hw hAF⟩
set_option maxHeartbeats 1000000 in
theorem sd_K_call {d : Nat} (hx : p.tables.exec = Jvm.exec) (hb : c.code = cc) (hml : c.maxLocals = nL) (hown : s.vm.findClass (sd_cn o) = some m.cls) (hts : ∀ w ∈ sd_G, w.before args s = true) (hN : sd_NW s) (hSS : sd_SS A s s.heap) (hK : va_K D vwCl [] s) (hA : ∀ q, s.heap.size ≤ q → A q) (hf : d + 5 ≤ R.frames) (hlo : 32 * (d + 1) + 128 ≤ R.locals)
    {ins : Jvm.ClassFile.Instr} {len k j : Nat} (hd : decode cc F.1 = .ok (ins, len)) (hcl : sd_cl o ins len = some (k, j)) {qj : sd_MI} {As r : List sd_V} {Ra : sd_A} (hq : sd_mL[j]? = some qj) (heq : F.2.2.1 = As.reverse ++ r) (hn : As.length = qj.2.2.2.2.2.1 + (if k = 0 ∨ k = 2 then 1 else 0)) (h8 : sd_sum r ≤ 8) (hrc : sd_rc k qj.2.2.2.2.1 F.2.2.2.1 As = true) (hS0 : sd_Snd l d j As F.2.2.2.1 Ra)
    (hF : F1 = (F.1 + 3, F.2.1, Ra.1.toList ++ r, Ra.2.1, F.2.2.2.2.1 + Ra.2.2.1, F.2.2.2.2.2 + Ra.2.2.2)) : sd_K p l e R s m args below meth c D A as0 nL Q F F1 := by
  subst hF
  refine ⟨Nat.le_add_right _ _, Nat.le_add_right _ _, fun hc hs hT ws H locs ls cst lv hW hP hD hS hE hst hlv hls => ?_⟩
  rw [heq] at hst
  obtain ⟨m1, cr, rfl, h1, hr⟩ := sd_RL_spl hst
  have hAs : sd_RL (ws.map (fun q => q.1)) As m1.reverse := by
    have := sd_RL_rev h1
    rwa [List.reverse_reverse] at this
  have hM := hS0 qj hq D ws H.size m1.reverse hAs
  have hAF : ∀ q, va_A ws H.size q → A q := by
    rintro q (⟨k2, e2, h2⟩ | h2)
    · exact hD.2 k2 _ h2
    · exact hA q (Nat.le_trans hS.1 h2)
  have hpre := sd_pre (cav := m1.reverse) hW hP hD hK hN hSS hS hAF
  have hmok := sd_mL_ok _ _ hq
  have hgood := sd_goodm hmok
  obtain ⟨hcode, hpl, hcls, hd3, hmax, -⟩ := hmok
  have hsum := sd_RL_sum hr
  have hlen := sd_RL_len hAs
  have hrun : va_Run p l e R s m args below meth c H locs F.2.2.2.2.1 F.2.2.2.2.2 Ra.2.2.1 Ra.2.2.2 (F0 m F.1 ls (m1 ++ cr)) cr (sd_Qc D ws H.size Ra m1.reverse.toArray) (va_A ws H.size) := by
    have hR : (sd_rm d Ra).frames + 1 ≤ R.frames ∧ 8 + (qj.2.2.1 + 11) + (sd_rm d Ra).locals ≤ R.locals := by
      constructor
      · show d + 4 + 1 ≤ R.frames
        omega
      · show 8 + (qj.2.2.1 + 11) + (32 * d + 128) ≤ R.locals
        omega
    have hW8 : (cr.map fun v => v.category).sum ≤ 8 := by omega
    have hst2 : m1 = m1.reverse.reverse := (List.reverse_reverse m1).symm
    unfold sd_cl at hcl
    split at hcl
    · rename_i i
      split at hcl
      · rename_i j2 hl
        obtain ⟨rfl, h2⟩ := sd_if hcl
        cases h2
        obtain ⟨q2, hq2, w1, w2, w3, w4⟩ := sd_ml_ok _ _ _ _ hl
        have hqq : q2 = qj := Option.some.inj (hq2.symm.trans hq)
        subst hqq
        rcases As with _ | ⟨v, As⟩
        · cases hrc
        rcases v with z | z | _ | a <;> first | (cases hrc; done) | skip
        obtain ⟨b, cav, hcav, hba, hcs⟩ := sd_RL_r hAs
        rw [hcav] at hst2 hM hpre hlen
        rw [List.reverse_cons] at hst2
        unfold sd_rc at hrc
        simp only [if_true] at hrc
        split at hrc
        · rename_i c0 fs0 he0
          have hc0 : c0 = q2.2.2.2.2.1 := by simpa using hrc
          obtain ⟨e2, hw2, hc2⟩ := sd_RW_get hW he0 hba
          rcases e2 with ⟨cA, n, g | g | g | g | g⟩ | ⟨cj2, gs⟩ <;> first | exact hc2.elim | skip
          obtain ⟨rfl, -⟩ := hc2
          rw [hcav]
          refine va_runV (C := q2.1.cls) (As := cav) (n := q2.2.2.2.2.2.1) ⟨hx, hb, hml, hown, hts⟩ hM ⟨callB_of _ hts hgood rfl rfl rfl (hts _ w4) (hts _ w1) hd3 hR, hts _ w2, hts _ w3⟩ ⟨sd_blind, ?_, hpre⟩ rfl ?_ hls.1 ?_ (lv_room hW8) hd ⟨hc, hs⟩
          · have hvc : ∃ qv, vwCl[c0]? = some qv := by
              obtain ⟨rv, h3, -⟩ := hP a _ hw2
              exact ⟨rv, h3⟩
            obtain ⟨qv, hqv⟩ := hvc
            have := va_recv hK hP hqv hw2
            rw [(sd_cls_ok _ _ hqv).2.2.2.1, hc0, ← hcls] at this
            exact this
          · simp only [List.length_cons] at hn hlen
            simp at hn
            omega
          · show m1 ++ cr = _
            rw [hst2]
            simp
        · cases hrc
      · cases hcl
    · rename_i i
      split at hcl
      · rename_i j2 hl
        obtain ⟨rfl, h2⟩ := sd_if hcl
        cases h2
        obtain ⟨q2, hq2, w1, w2, w4⟩ := sd_ml_ok _ _ _ _ hl
        have hqq : q2 = qj := Option.some.inj (hq2.symm.trans hq)
        subst hqq
        refine va_runS (As := m1.reverse) (n := q2.2.2.2.2.2.1) ⟨hx, hb, hml, hown, hts⟩ hM ⟨callB_of _ hts hgood rfl rfl rfl (hts _ w4) (hts _ w1) hd3 hR, hts _ w2⟩ ⟨sd_blind, hpre⟩ rfl ?_ hls.1 ?_ (lv_room hW8) hd ⟨hc, hs⟩
        · rw [hlen, hn]; simp
        · show m1 ++ cr = _
          rw [List.reverse_reverse]
      · rename_i j2 hl
        obtain ⟨rfl, h2⟩ := sd_if hcl
        cases h2
        obtain ⟨q2, hq2, w1, w2, w4⟩ := sd_ml_ok _ _ _ _ hl
        have hqq : q2 = qj := Option.some.inj (hq2.symm.trans hq)
        subst hqq
        refine va_runSN (host := "SlipDesk") (As := m1.reverse) (n := q2.2.2.2.2.2.1) ⟨hx, hb, hml, hown, hts⟩ hM ⟨va_cnB _ hts hgood rfl rfl rfl (hN.1 _ w1) (hts _ w4) hd3 hR, hts _ w2, trivial⟩ ⟨sd_blind, hpre⟩ rfl ?_ hls.1 ?_ (lv_room hW8) hd ⟨hc, hs⟩
        · rw [hlen, hn]; simp
        · show m1 ++ cr = _
          rw [List.reverse_reverse]
      · cases hcl
    · rename_i i
      split at hcl
      · rename_i j2 hl
        obtain ⟨rfl, h2⟩ := sd_if hcl
        cases h2
        obtain ⟨q2, hq2, w1, w2, w5, w6, w4⟩ := sd_ml_ok _ _ _ _ hl
        have hqq : q2 = qj := Option.some.inj (hq2.symm.trans hq)
        subst hqq
        rcases As with _ | ⟨v, As⟩
        · cases hrc
        rcases v with z | z | _ | a <;> first | (cases hrc; done) | skip
        obtain ⟨b, cav, hcav, hba, hcs⟩ := sd_RL_r hAs
        rw [hcav] at hst2 hM hpre hlen
        rw [List.reverse_cons] at hst2
        rw [hcav]
        obtain ⟨yq, bq, mq, rq, oq, nq, tq⟩ := q2
        dsimp only at w6
        subst w6
        refine va_runIN (host := "SlipDesk") (As := cav) (n := nq) ⟨hx, hb, hml, hown, hts⟩ hM ⟨va_cnB _ hts hgood rfl rfl rfl (hN.1 _ w1) (hts _ w4) hd3 hR, w5, hts _ w2⟩ ⟨sd_blind, hpre⟩ rfl ?_ hls.1 ?_ (lv_room hW8) hd ⟨hc, hs⟩
        · simp only [List.length_cons] at hn hlen
          simp at hn
          omega
        · show m1 ++ cr = _
          rw [hst2]
          simp
      · cases hcl
    · cases hcl
  intro T hT2 X
  obtain ⟨v, st₀, t, T', L, h0, X', hL, e1, e2, hqc, st⟩ := hrun T hT2 X
  obtain ⟨⟨rv, ws2, hv, hRO, hW2, ⟨ex, hex⟩, hP2, hK2, hD2⟩, hz, hk2⟩ := hqc
  cases hv
  rw [h0] at hz hk2
  have hal : t.vm.Alike s.vm := by rw [← e2]; exact X'.warmed.alike.symm
  have kk := hT ws2 T'.heap (locs ++ L) ls (v.toList ++ cr) lv (sd_RW_mv hal hW2) (by rw [e1]; exact hP2) (hD2.weaken (fun k3 q3 _ h3 => hAF q3.1 h3))
    ⟨Nat.le_trans hS.1 (by rw [e1]; exact hz), fun q h1 h2 => by rw [e1, hk2 q (Nat.lt_of_lt_of_le h1 hS.1) (fun z => h2 (hAF q z))]; exact hS.2.1 q h1 h2, fun q hq3 => by
      rcases List.mem_append.mp hq3 with h3 | h3
      · exact hS.2.2 q h3
      · exact hAF _ (hL q h3)⟩
    (by
      obtain ⟨ex0, hex0⟩ := hE
      exact ⟨ex0 ++ ex, by rw [hex, hex0, List.append_assoc]⟩)
    (by
      refine sd_RL_app ?_ (by rw [hex]; exact sd_RL_ext hr)
      rcases hv : Ra.1 with _ | v1
      · rcases v with _ | w1
        · exact trivial
        · rw [hv] at hRO; exact hRO.elim
      · rcases v with _ | w1
        · rw [hv] at hRO; exact hRO.elim
        · rw [hv] at hRO; exact ⟨hRO, trivial⟩)
    (by rw [hex]; exact sd_RV_ext hlv) hls
  obtain ⟨t2, a1, b1⟩ := kk T' rfl X'
  exact ⟨t2, st t2 a1, b1⟩
end SdSim
