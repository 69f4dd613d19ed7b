/-! states alike but for what days change; kept and laid back -/
def ms_ou (S T : Nat → Int) : Prop := ∀ i, (i < 58 ∨ 107 ≤ i) → T i = S i
theorem ms_ou_rf {S : Nat → Int} : ms_ou S S := fun _ _ => rfl
theorem ms_ou_tr {S T U : Nat → Int} (h : ms_ou S T) (g : ms_ou T U) : ms_ou S U := fun i x => (g i x).trans (h i x)
theorem ms_ou_u {S : Nat → Int} {i : Nat} {v : Int} (h : 58 ≤ i ∧ i < 107) : ms_ou S (ms_u S i v) := fun j hj => ms_u_ne (by omega)
theorem ms_ou_go {S : Nat → Int} (h : ms_ok S) {p : Nat} (hp : (p : Int) < S 60) : ms_ou S (ms_go S p (S (89 + p))) := fun i hi => by
  have l := ms_lines h
  have a := ms_line h hp
  have c := h.2.1
  have d := ms_cw_ge (S := S) (S 2).toNat
  rcases hi with hi | hi
  · exact ms_go_lo (by omega) (by omega)
  · exact ms_go_hi (by omega) (by omega) (by omega) hi
theorem ms_ou_se : ∀ (q : Nat) {S : Nat → Int}, ms_ok S → ms_ou S (ms_se q S)
  | 0, _, _ => ms_ou_rf
  | q + 1, S, h => by
    rw [ms_se]
    split
    · rename_i hc
      exact ms_ou_tr (ms_ou_go h hc) (ms_ou_se q (ms_go_ok h hc))
    · exact ms_ou_rf
theorem ms_ou_st {S : Nat → Int} (h : ms_ok S) : ms_ou S (ms_st S) := ms_ou_se 9 h
theorem ms_ou_tk {S : Nat → Int} (h : ms_ok S) {f : Int} (hf : (0 ≤ f ∧ f < S 2) ∧ S (71 + f.toNat) = 0) : ms_ou S (ms_tk S f) := fun i hi => by
  have l := ms_lines h
  have w := ms_cw_f hf.2 (S 2).toNat (by omega)
  have c := h.2.1
  unfold ms_tk
  rw [ms_u_ne (by omega), ms_u_ne (by omega), ms_u_ne (by omega)]
theorem ms_ou_pa {W : (Nat → Int) → Int → Int} {S : Nat → Int} (h : ms_ok S) : ms_ou S (ms_pa W S) := by
  unfold ms_pa
  split
  · exact ms_ou_st h
  · rename_i c
    have c2 := ms_ch_b h (W := W)
    have c3 : (0 ≤ ms_ch S W ∧ ms_ch S W < S 2) ∧ S (71 + (ms_ch S W).toNat) = 0 := by
      rcases c2 with d | d
      · omega
      · exact d
    exact ms_ou_tr (ms_ou_tk h c3) (ms_ou_st (ms_tk_ok h c3))
theorem ms_ou_ps {W : (Nat → Int) → Int → Int} {S : Nat → Int} (h : ms_ok S) : ms_ou S (ms_ps W S) := ms_ou_tr (ms_ou_pa h) (ms_ou_u (by omega))
theorem ms_ou_ca {S : Nat → Int} (h : ms_ok S) {f : Int} (hf : (0 ≤ f ∧ f < S 2) ∧ S (71 + f.toNat) = 1) : ms_ou S (ms_ca S f) := by
  have p := ms_po_l h hf
  unfold ms_ca
  have e := ms_ou_go h p.1
  have o := ms_go_ok h p.1
  rw [p.2] at e o
  exact ms_ou_tr e (ms_ou_st o)
def rf_kp (M : sd_M) (S : Nat → Int) : Prop := ∀ k, k < 49 → M 346 k = S (58 + k)
theorem rf_keeps_l {M0 : sd_M} : ∀ (m k fu : Nat) (M : sd_M), k + m = 49 → m < fu → (∀ a, a ≠ 346 → M a = M0 a) → (∀ j, j < k → M 346 j = M0 341 (58 + j)) → ms_T (f_X10_keeps_2 fu (k : Int) M) (fun _ N => (∀ a, a ≠ 346 → N a = M0 a) ∧ rf_kp N (M0 341)) := by
  intro m
  induction m with
  | zero =>
    intro k fu M hk hf h1 h2
    obtain ⟨fu, rfl⟩ : ∃ g, fu = g + 1 := ⟨fu - 1, by omega⟩
    rw [f_X10_keeps_2, if_pos (by omega)]
    exact ms_t_r ⟨h1, fun j hj => h2 j (by omega)⟩
  | succ m ih =>
    intro k fu M hk hf h1 h2
    obtain ⟨fu, rfl⟩ : ∃ g, fu = g + 1 := ⟨fu - 1, by omega⟩
    rw [f_X10_keeps_2, if_neg (by omega), sd_wid (z := 58 + (k : Int)) (by omega) (by omega), if_pos (by omega), if_pos (by omega), sd_wid (z := (k : Int) + 1) (by omega) (by omega), show (58 + (k : Int)).toNat = 58 + k by omega, Int.toNat_natCast]
    have up := ih (k + 1) fu (sd_s M 346 k (M 341 (58 + k))) (by omega) (by omega) (fun a x => by rw [sd_s_a x, h1 a x]) (fun j hj => by
      by_cases e : j = k
      · subst e
        rw [sd_s_at, h1 341 (by omega)]
      · rw [sd_s_j e]
        exact h2 j (by omega))
    push_cast at up
    exact up
theorem rf_keeps {M : sd_M} : ms_T (f_X10_keeps M) (fun _ N => (∀ a, a ≠ 346 → N a = M a) ∧ rf_kp N (M 341)) := rf_keeps_l 49 0 4000 M (by omega) (by omega) (fun _ _ => rfl) (fun j hj => absurd hj (by omega))
theorem rf_laysBack_l {M0 : sd_M} {S : Nat → Int} (hk : rf_kp M0 S) (ho : ms_ou S (M0 341)) : ∀ (m k fu : Nat) (M : sd_M), k + m = 49 → m < fu → (∀ a, a ≠ 341 → M a = M0 a) → (∀ i, M 341 i = if 58 ≤ i ∧ i < 58 + k then S i else M0 341 i) → ms_T (f_X10_laysBack_2 fu (k : Int) M) (fun _ N => N 341 = S ∧ ∀ a, a ≠ 341 → N a = M0 a) := by
  intro m
  induction m with
  | zero =>
    intro k fu M hkm hf h1 h2
    obtain ⟨fu, rfl⟩ : ∃ g, fu = g + 1 := ⟨fu - 1, by omega⟩
    rw [f_X10_laysBack_2, if_pos (by omega)]
    refine ms_t_r ⟨?_, h1⟩
    funext i
    rw [h2 i]
    by_cases c : 58 ≤ i ∧ i < 58 + k
    · rw [if_pos c]
    · rw [if_neg c]
      exact ho i (by omega)
  | succ m ih =>
    intro k fu M hkm hf h1 h2
    obtain ⟨fu, rfl⟩ : ∃ g, fu = g + 1 := ⟨fu - 1, by omega⟩
    rw [f_X10_laysBack_2, if_neg (by omega), if_pos (by omega), sd_wid (z := 58 + (k : Int)) (by omega) (by omega), if_pos (by omega), sd_wid (z := (k : Int) + 1) (by omega) (by omega), show (58 + (k : Int)).toNat = 58 + k by omega, Int.toNat_natCast]
    have up := ih (k + 1) fu (sd_s M 341 (58 + k) (M 346 k)) (by omega) (by omega) (fun a x => by rw [sd_s_a x, h1 a x]) (fun i => by
      by_cases e : i = 58 + k
      · subst e
        rw [sd_s_at, h1 346 (by omega), hk k (by omega), if_pos (by omega)]
      · rw [sd_s_j e, h2 i]
        by_cases c : 58 ≤ i ∧ i < 58 + k
        · rw [if_pos c, if_pos (by omega)]
        · rw [if_neg c, if_neg (by omega)])
    push_cast at up
    exact up
theorem rf_laysBack {M : sd_M} {S : Nat → Int} (hk : rf_kp M S) (ho : ms_ou S (M 341)) : ms_T (f_X10_laysBack M) (fun _ N => N 341 = S ∧ ∀ a, a ≠ 341 → N a = M a) := rf_laysBack_l hk ho 49 0 4000 M (by omega) (by omega) (fun _ _ => rfl) (fun i => by rw [if_neg (by omega)])
theorem rf_kp_d {M N : sd_M} {S : Nat → Int} (h : rf_kp M S) (e : rf_d M N) : rf_kp N S := fun k hk => by
  rw [e.1 346 (by omega) (by omega) (by omega) (by omega) (by omega) (by omega) (by omega)]
  exact h k hk
theorem rf_q_kp {M N : sd_M} (h : ∀ a, a ≠ 346 → N a = M a) : rf_q M N := ⟨fun a ha => h a (by
  have := iv_cx ha
  omega), fun j _ => by rw [h 331 (by omega)]⟩
theorem rf_d_f {M N : sd_M} (h : rf_f M N) : rf_d M N := rf_d_g (rf_g_f h)
theorem rf_d_41 {M N : sd_M} (h : ∀ a, a ≠ 341 → N a = M a) : rf_d M N := rf_d_g (rf_g_1 h)
/-- cancelled in the reference -/
theorem rf_cancels {M : sd_M} (h : ms_ok (M 341)) {f : Int} (hf : (0 ≤ f ∧ f < M 341 2) ∧ M 341 (71 + f.toNat) = 1) : ms_T (f_X10_cancels f M) (fun v N => v = ms_ca (M 341) f 61 - M 341 61 ∧ N 341 = ms_ca (M 341) f ∧ rf_g M N) := by
  have l := ms_lines h
  have p := ms_po_l h hf
  have c := ms_lines (ms_ca_ok h hf)
  have e2 : ms_ca (M 341) f 2 = M 341 2 := ms_ou_ca h hf 2 (by omega)
  have g := rf_goesOut h p.1
  have o := ms_go_ok h p.1
  rw [p.2] at g o
  unfold f_X10_cancels
  refine ms_t_b g (fun r N hN => ?_)
  simp only []
  refine ms_t_b (rf_settlesAll (M := N) (by rw [hN.1]; exact o)) (fun r2 K hK => ?_)
  simp only []
  have e : K 341 = ms_ca (M 341) f := by
    rw [hK.1, hN.1]
    rfl
  refine ms_t_r ⟨?_, e, rf_g_tr (rf_g_1 hN.2) hK.2⟩
  rw [e]
  exact sd_wid (by omega) (by omega)
/-! small questions of the class -/
theorem cl_isOffer {M : sd_M} {S : Nat → Int} (h : M 59 2 = S 2) (f : Int) : f_X9_isOffer f M = some (if 0 ≤ f ∧ f < S 2 then 1 else 0, M) := by
  unfold f_X9_isOffer
  rw [h]
  by_cases a : f < 0
  · rw [if_pos a, if_neg (by omega)]
  · rw [if_neg a]
    split
    · rw [if_neg (by omega)]
    · rw [if_pos (by omega)]
theorem cl_isLine {M : sd_M} {S : Nat → Int} (h : ms_ok S) (h2 : M 59 2 = S 2) (hb : cl_bs M 66 S) (f : Int) : f_X9_isLine f M = some (if (0 ≤ f ∧ f < S 2) ∧ S (71 + f.toNat) = 1 then 1 else 0, M) := by
  unfold f_X9_isLine
  rw [cl_isOffer h2, Option.bind_some]
  simp only []
  by_cases a : 0 ≤ f ∧ f < S 2
  · rw [if_pos a, if_neg (by omega), cl_isOn h hb, Option.bind_some]
    simp only []
    by_cases c : S (71 + f.toNat) = 1
    · rw [ms_i1 ⟨a, c⟩, if_neg (by omega)]
    · rw [ms_i0 (fun e => c e.2), if_pos rfl]
  · rw [if_neg a, if_pos rfl, if_neg (fun e => a e.1)]
theorem cl_isNumber {M : sd_M} (f : Int) : f_X9_isNumber f M = some (if 1 ≤ f ∧ f ≤ 999 then 1 else 0, M) := by
  unfold f_X9_isNumber
  by_cases a : f < 1
  · rw [if_pos a, if_neg (by omega)]
  · rw [if_neg a]
    split
    · rw [if_neg (by omega)]
    · rw [if_pos (by omega)]
theorem iv_isLine {M : sd_M} (h : sd_Iv M) (f : Int) : f_X9_isLine f M = some (if (0 ≤ f ∧ f < M 341 2) ∧ M 341 (71 + f.toNat) = 1 then 1 else 0, M) := cl_isLine (iv_ok h) (iv_tn h).1.1 (iv_bk h).1 f
theorem iv_isOffer {M : sd_M} (h : sd_Iv M) (f : Int) : f_X9_isOffer f M = some (if 0 ≤ f ∧ f < M 341 2 then 1 else 0, M) := cl_isOffer (iv_tn h).1.1 f
/-- there is a slip -/
theorem iv_sp {M : sd_M} (h : sd_Iv M) : M 59 0 = M 341 0 ∧ (M 341 0 = 0 ∨ M 341 0 = 1) := ⟨(iv_tw h).1.1, (iv_ok h).1.1⟩
