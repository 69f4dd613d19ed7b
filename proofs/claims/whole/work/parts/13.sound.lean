theorem sd_RV_wk {as : List Nat} {lvA : List (Nat × sd_V)} {lv : List (Nat × Value)} {ls : Array Slot} {nL : Nat} (h : sd_RV as lvA lv) (hl : lv_has ls nL lv) : ∀ (lvw : List (Nat × sd_V)), (∀ e ∈ lvw, lvA.lookup e.1 = some e.2) → ∃ lv2, sd_RV as lvw lv2 ∧ lv_has ls nL lv2
  | [], _ => ⟨[], trivial, hl.1, hl.2.1, fun q hq => absurd hq List.not_mem_nil⟩
  | (i, v) :: t, hw => by
    obtain ⟨lv2, g1, g2⟩ := sd_RV_wk h hl t (fun e he => hw e (List.mem_cons_of_mem _ he))
    obtain ⟨k, w, h1, h2⟩ := sd_RV_get h (hw (i, v) List.mem_cons_self)
    refine ⟨(i, w) :: lv2, ⟨rfl, h2, g1⟩, g2.1, g2.2.1, fun q hq => ?_⟩
    rcases List.mem_cons.mp hq with hq | hq
    · rw [hq]; exact lv_at hl k h1
    · exact g2.2.2 q hq
/-- n steps of our machine, walked -/
theorem sd_run {l : Launch} {d : Nat} {C : Nat → List sd_V → List sd_E → sd_A → Prop} (hC : ∀ j As E Ra, C j As E Ra → ∃ d', d = d' + 1 ∧ sd_Snd l d' j As E Ra) {q : sd_MI} (hq : sd_mok q) {Ra : sd_A}
    {p : Program} {e : Env} {s : State} {m : MethodId} {args : Array Value} {below : List Frame} {meth : Method} {c : Code} {D : va_G} {ws0 : va_W}
    (hx : p.tables.exec = Jvm.exec) (hb : c.code = q.2.1) (hml : c.maxLocals = q.2.2.1) (hown : s.vm.findClass (sd_cn q.2.2.2.2.1) = some m.cls) (hts : ∀ w ∈ sd_G, w.before args s = true) (hN : sd_NW s) (hSS : sd_SS (va_A ws0 s.heap.size) s s.heap) (hK : va_K D vwCl [] s) (hr : meth.sig.returnType = q.2.2.2.1) (hlocks : meth.locks = false) (hnm : meth.name = q.1.name) :
    ∀ (n : Nat) (F : sd_F), sd_Ex C q n F Ra → F.2.2.2.2.1 ≤ Ra.2.2.1 ∧ F.2.2.2.2.2 ≤ Ra.2.2.2 ∧ sd_T p l e (sd_rm d Ra) s m args below meth c D (va_A ws0 s.heap.size) (ws0.map (fun q => q.1)) q.2.2.1 (MQ below (sd_Qc D ws0 s.heap.size Ra) args s Ra.2.2.1 Ra.2.2.2 (va_A ws0 s.heap.size)) F := by
  intro n
  induction n with
  | zero => intro F h; exact h.elim
  | succ n ih =>
    intro F h
    rcases h with (⟨G, hs, hG⟩ | ⟨lvw, hlw, h⟩) | ⟨F1, hY, h⟩
    rotate_left
    · obtain ⟨i1, i2, i3⟩ := ih _ h
      refine ⟨i1, i2, fun ws H locs ls cst lv hW hP hD hS hE hst hlv hls => ?_⟩
      obtain ⟨lv2, g1, g2⟩ := sd_RV_wk hlv hls lvw hlw
      exact i3 ws H locs ls cst lv2 hW hP hD hS hE hst g1 g2
    · obtain ⟨i1, i2, i3⟩ := ih _ h
      obtain ⟨k1, k2, k3⟩ := sd_K_Y (l := l) (e := e) (below := below) (as0 := ws0.map (fun q => q.1)) (Q := MQ below (sd_Qc D ws0 s.heap.size Ra) args s Ra.2.2.1 Ra.2.2.2 (va_A ws0 s.heap.size)) (R := sd_rm d Ra) (D := D) (A := va_A ws0 s.heap.size) hq hx hb hml hown hts hSS (by show 4 ≤ d + 4; omega) (by show 128 ≤ 32 * d + 128; omega) hY
      exact ⟨by omega, by omega, k3 i1 i2 i3⟩
    have hA : ∀ q, s.heap.size ≤ q → va_A ws0 s.heap.size q := fun q h => Or.inr h
    unfold sd_sR at hs
    split at hs
    · exact hs.elim
    rename_i ins len hlk
    have hd : decode q.2.1 F.1 = .ok (ins, len) := hq.2.2.2.2.2 (F.1, ins, len) (sd_lk_mem hlk)
    split at hs
    · rename_i hcl
      cases G with
      | inl F1 =>
        obtain ⟨i1, i2, i3⟩ := ih F1 hG
        obtain ⟨k1, k2, k3⟩ := sd_sim (l := l) (e := e) (below := below) (as0 := ws0.map (fun q => q.1)) (Q := MQ below (sd_Qc D ws0 s.heap.size Ra) args s Ra.2.2.1 Ra.2.2.2 (va_A ws0 s.heap.size)) (R := sd_rm d Ra) hx hb hml hown hts hN hK hA (by show 1 ≤ d + 4; omega) (by show 64 ≤ 32 * d + 128; omega) (fun hi => by rw [hnm]; simpa using hi) hd hs
        exact ⟨by omega, by omega, k3 i1 i2 i3⟩
      | inr R1 =>
        have hR1 : R1 = Ra := hG
        subst hR1
        obtain ⟨k1, k2, k3⟩ := sd_sim_ret (l := l) (e := e) (below := below) (R := sd_rm d R1) (m := m) (args := args) (ws0 := ws0) (sz := s.heap.size) hx hb hlocks hK hr hd hs
        exact ⟨by omega, by omega, k3⟩
    · rename_i k j hcl
      obtain ⟨qj, As, r, Rc, hqj, heq, hn, h8, hrc, hCj, rfl⟩ := hs
      obtain ⟨i1, i2, i3⟩ := ih _ hG
      obtain ⟨d2, rfl, hS⟩ := hC _ _ _ _ hCj
      obtain ⟨k1, k2, k3⟩ := sd_K_call (l := l) (e := e) (below := below) (as0 := ws0.map (fun q => q.1)) (Q := MQ below (sd_Qc D ws0 s.heap.size Ra) args s Ra.2.2.1 Ra.2.2.2 (va_A ws0 s.heap.size)) (R := sd_rm (d2 + 1) Ra) hx hb hml hown hts hN hSS hK hA (by show d2 + 5 ≤ d2 + 1 + 4; omega) (by show 32 * (d2 + 1) + 128 ≤ 32 * (d2 + 1) + 128; omega) hd hcl hqj heq hn h8 hrc hS rfl
      exact ⟨by omega, by omega, k3 i1 i2 i3⟩
theorem sd_met {l : Launch} {d : Nat} {C : Nat → List sd_V → List sd_E → sd_A → Prop} (hC : ∀ j As E Ra, C j As E Ra → ∃ d', d = d' + 1 ∧ sd_Snd l d' j As E Ra) {q : sd_MI} (hq : sd_mok q) {n : Nat} {As : List sd_V} {E : List sd_E} {Ra : sd_A} (hn : sd_sum As ≤ q.2.2.1) (h : sd_Ex C q n (0, sd_en 0 As, [], E, 0, 0) Ra) {D : va_G} {ws : va_W} {sz : Nat} {cav : List Value} (hA : sd_RL (ws.map (fun q => q.1)) As cav) : Met l q.1 (sd_wm q) (sd_rm d Ra) (sd_Pc D ws sz E cav) (sd_Qc D ws sz Ra) Ra.2.2.1 Ra.2.2.2 (va_A ws sz) := by
  refine Met.ofW (cc := q.2.1) (maxL := q.2.2.1) (ret := q.2.2.2.1) hq.2.1 rfl ?_
  intro p e s m args below meth c s₁ B hml hv
  obtain ⟨rfl, rfl, hRW, hP, hK, hD0, hNW, hSS⟩ := hv
  have hts0 := atoms_spec (ws := sd_wm q) B.pre
  have hts : ∀ w ∈ sd_G, w.before cav.toArray s = true := fun w hw => hts0 w (List.mem_cons_of_mem _ hw)
  have hown : s.vm.findClass (sd_cn q.2.2.2.2.1) = some m.cls := by rw [← hq.2.2.1]; exact findClass_of_methodNamed B.named
  obtain ⟨-, -, hT⟩ := sd_run (e := e) (below := below) (ws0 := ws) hC hq B.exec B.bytes hml hown hts hNW hSS hK B.returns B.notSynchronized (name_of_methodNamed B.named B.method).1 n _ h
  have hl := lv_entry cav (n := q.2.2.1) (by rw [sd_sl_len hA]; exact hn)
  rw [lg_entry_eq]
  exact hT ws s.heap [] _ [] _ hRW hP hD0.self va_S.rf ⟨[], (List.append_nil _).symm⟩ trivial (sd_RV_en hA) hl
/-- THE BRIDGE: what our machine says of a method is its contract -/
theorem sd_sound {l : Launch} {X : Nat → List sd_V → List sd_E → sd_A → Prop} (hX : ∀ d j As E Ra, X j As E Ra → sd_Snd l d j As E Ra) : ∀ (d j : Nat) (As : List sd_V) (E : List sd_E) (Ra : sd_A), sd_Cal X (d + 1) j As E Ra → sd_Snd l d j As E Ra := by
  intro d
  induction d with
  | zero =>
    intro j As E Ra h
    rcases h with h | ⟨q, n, hq, hn, h⟩
    · exact hX _ _ _ _ _ h
    · intro q2 hq2 D ws sz cav hA
      have e : q = q2 := Option.some.inj (hq.symm.trans hq2)
      subst e
      exact sd_met (C := sd_Cal X 0) (fun j As E Ra h => h.elim) (sd_mL_ok _ _ hq) hn h hA
  | succ d ih =>
    intro j As E Ra h
    rcases h with h | ⟨q, n, hq, hn, h⟩
    · exact hX _ _ _ _ _ h
    · intro q2 hq2 D ws sz cav hA
      have e : q = q2 := Option.some.inj (hq.symm.trans hq2)
      subst e
      exact sd_met (C := sd_Cal X (d + 1)) (fun j As E Ra h => ⟨d, rfl, ih j As E Ra h⟩) (sd_mL_ok _ _ hq) hn h hA
