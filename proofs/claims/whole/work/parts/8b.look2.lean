/-! look: the day -/
def ms_lo (al : Nat → Int) : Nat → Int × Int
  | 0 => (0, al 0)
  | n + 1 => if al (n + 1) < (ms_lo al n).2 then (((n + 1 : Nat) : Int), al (n + 1)) else ms_lo al n
theorem ms_lo_b {al : Nat → Int} : ∀ n, 0 ≤ (ms_lo al n).1
  | 0 => Int.le_refl _
  | n + 1 => by
    have := ms_lo_b (al := al) n
    rw [ms_lo]
    split
    · simp only []
      omega
    · exact this
theorem cl_look_l {M : sd_M} {al : Nat → Int} {many : Int} (ha : ∀ d : Nat, d < 31 → f_X9_mostAlike (d : Int) many M = some (al d, M)) (kk : Int → Int → Int → sd_M → Option (Int × sd_M)) (w : Int) : ∀ (m e fu : Nat), e + m = 30 → m < fu → f_X9_look_47 kk fu w many (ms_lo al e).1 (ms_lo al e).2 ((e : Int) + 1) M = kk w (ms_lo al 30).1 (ms_lo al 30).2 M := by
  intro m
  induction m with
  | zero =>
    intro e fu he hf
    obtain ⟨fu, rfl⟩ : ∃ g, fu = g + 1 := ⟨fu - 1, by omega⟩
    rw [f_X9_look_47, if_pos (by omega), show e = 30 by omega]
  | succ m ih =>
    intro e fu he hf
    obtain ⟨fu, rfl⟩ : ∃ g, fu = g + 1 := ⟨fu - 1, by omega⟩
    have up := ih (e + 1) fu (by omega) (by omega)
    have a := ha (e + 1) (by omega)
    have lo1 : ms_lo al (e + 1) = if al (e + 1) < (ms_lo al e).2 then (((e + 1 : Nat) : Int), al (e + 1)) else ms_lo al e := rfl
    rw [lo1] at up
    push_cast at a up
    rw [f_X9_look_47, if_neg (by omega), a, Option.bind_some]
    simp only [f_X9_look_77]
    rw [sd_wid (z := (e : Int) + 1 + 1) (by omega) (by omega)]
    by_cases c : al (e + 1) < (ms_lo al e).2
    · rw [if_pos c] at up
      rw [if_neg (by omega)]
      exact up
    · rw [if_neg c] at up
      rw [if_pos (by omega)]
      exact up
theorem rf_look_l {M : sd_M} {al : Nat → Int} (ha : ∀ d : Nat, d < 31 → f_X10_alikeAt (d : Int) M = some (al d, M)) (h1 : ∀ d : Nat, d < 31 → 1 ≤ al d) (kk : Int → Int → Int → sd_M → Option (Int × sd_M)) (w : Int) : ∀ (m e fu : Nat), e + m = 30 → m < fu → f_X10_look_32 kk fu w (ms_lo al e).1 (ms_lo al e).2 ((e : Int) + 1) M = kk w (ms_lo al 30).1 (ms_lo al 30).2 M := by
  intro m
  induction m with
  | zero =>
    intro e fu he hf
    obtain ⟨fu, rfl⟩ : ∃ g, fu = g + 1 := ⟨fu - 1, by omega⟩
    rw [f_X10_look_32, if_pos (by omega), show e = 30 by omega]
  | succ m ih =>
    intro e fu he hf
    obtain ⟨fu, rfl⟩ : ∃ g, fu = g + 1 := ⟨fu - 1, by omega⟩
    have up := ih (e + 1) fu (by omega) (by omega)
    have a := ha (e + 1) (by omega)
    have b := h1 (e + 1) (by omega)
    have n := ms_lo_b (al := al) e
    have lo1 : ms_lo al (e + 1) = if al (e + 1) < (ms_lo al e).2 then (((e + 1 : Nat) : Int), al (e + 1)) else ms_lo al e := rfl
    rw [lo1] at up
    push_cast at a up
    rw [f_X10_look_32, if_neg (by omega), a, Option.bind_some]
    simp only [f_X10_look_71, f_X10_look_65]
    rw [sd_wid (z := (e : Int) + 1 + 1) (by omega) (by omega), if_neg (by omega), if_neg (show ¬ (ms_lo al e).1 < 0 by omega)]
    by_cases c : al (e + 1) < (ms_lo al e).2
    · rw [if_pos c] at up
      rw [if_pos c]
      exact up
    · rw [if_neg c] at up
      rw [if_neg c]
      exact up
theorem rf_look_0 {M : sd_M} (ha : ∀ d : Nat, d < 31 → f_X10_alikeAt (d : Int) M = some (0, M)) (kk : Int → Int → Int → sd_M → Option (Int × sd_M)) (w : Int) : ∀ (m e fu : Nat), e + m = 31 → m < fu → f_X10_look_32 kk fu w (-2) (-2) (e : Int) M = kk w (-2) (-2) M := by
  intro m
  induction m with
  | zero =>
    intro e fu he hf
    obtain ⟨fu, rfl⟩ : ∃ g, fu = g + 1 := ⟨fu - 1, by omega⟩
    rw [f_X10_look_32, if_pos (by omega)]
  | succ m ih =>
    intro e fu he hf
    obtain ⟨fu, rfl⟩ : ∃ g, fu = g + 1 := ⟨fu - 1, by omega⟩
    have up := ih (e + 1) fu (by omega) (by omega)
    push_cast at up
    rw [f_X10_look_32, if_neg (by omega), ha e (by omega), Option.bind_some]
    simp only [f_X10_look_71, if_true]
    rw [sd_wid (by omega) (by omega)]
    exact up
theorem sp_look : sd_S1 sd_Iv f_X9_look f_X10_look := iv_q1 (fun M h w hw => by
  have ok := iv_ok h
  have sp := iv_sp h
  have r1 := h.2.1.1
  obtain ⟨WW, hWW⟩ := iv_WW h
  obtain ⟨R, hR⟩ : ∃ R : Nat, M 331 2 = R := ⟨(M 331 2).toNat, by omega⟩
  by_cases c : M 341 0 = 1
  · by_cases d : 0 ≤ w ∧ w ≤ 1
    · have cb := ms_ct_b (p := ms_pw WW (M 341)) (R + 1)
      obtain ⟨n, hn⟩ : ∃ n : Nat, ms_ct (ms_pw WW (M 341)) (R + 1) = n := ⟨(ms_ct (ms_pw WW (M 341)) (R + 1)).toNat, by omega⟩
      obtain ⟨r, N1, e1, v1, q1, g1⟩ := cl_cour_4 h (fun i hi => (hWW i hi).1) hR (R + 1) 0 4000 M (by omega) (by omega) cl_qf_rf (fun b hb => by omega)
      have e1' : f_X9_layCourses M = some (r, N1) := e1
      have meb := fun d => ms_me_b (P := ms_pw WW (M 341)) (x := fun b => ms_co (WW b) (ms_bg (M 341)) d) (n := R + 1)
      have mo : ∀ d : Nat, d < 31 → f_X9_mostAlike (d : Int) (n : Int) N1 = some (ms_me (ms_pw WW (M 341)) (fun b => ms_co (WW b) (ms_bg (M 341)) d) (R + 1), N1) := fun d hd => by
        have z := cl_most (M := N1) (d := d) (many := n) hd (by omega) n 0 4000 (by omega) (by omega)
        have y := ms_me_y (P := ms_pw WW (M 341)) (Y := fun j => N1 329 (31 * j + d)) (x := fun b => ms_co (WW b) (ms_bg (M 341)) d) (n := R + 1) (fun b hb pb => g1 b hb pb d hd)
        rw [hn, Int.toNat_natCast] at y
        rw [y] at z
        exact z
      have rfx : ∀ N, sd_Iv N → cl_qf M N → ms_T (f_X10_fillsFits N) (fun _ K => rf_q N K ∧ ∀ d : Nat, d < 31 → f_X10_alikeAt (d : Int) K = some (ms_me (ms_pw WW (M 341)) (fun b => ms_co (WW b) (ms_bg (M 341)) d) (R + 1), K)) := fun N hN q => by
        have e : N 341 = M 341 := cl_qf_hi q (by omega)
        have e31 : N 331 = M 331 := cl_qf_hi q (by omega)
        refine ms_t_w (rf_fits hN (WW := WW) (R := R) (by rw [e31, hR]) (fun i hi => rf_W_q (hWW i (by rw [e31] at hi; exact hi)).2 q)) (fun _ K hK => ⟨hK.2.2, fun d hd => ?_⟩)
        rw [e] at hK
        have k2 : K 331 2 = R := by rw [hK.2.2.2 2 (by omega), e31, hR]
        exact rf_alike (by omega) k2 hK.2.1 hd (R + 1) 0 4000 (by omega) (by omega)
      by_cases g : 1 ≤ n
      · refine ⟨if w = 0 then (ms_lo (fun d => ms_me (ms_pw WW (M 341)) (fun b => ms_co (WW b) (ms_bg (M 341)) d) (R + 1)) 30).1 else (ms_lo (fun d => ms_me (ms_pw WW (M 341)) (fun b => ms_co (WW b) (ms_bg (M 341)) d) (R + 1)) 30).2, ?_, fun N hN q => ?_⟩
        · unfold f_X9_look
          rw [if_neg (by omega), if_neg (by omega), if_pos (by omega), e1', Option.bind_some]
          simp only []
          rw [v1, hn, if_pos (by omega), f_X9_look_47, if_neg (by omega)]
          have m0 := mo 0 (by omega)
          have m0' : f_X9_mostAlike 0 (n : Int) N1 = _ := m0
          rw [m0', Option.bind_some]
          simp only [f_X9_look_77]
          have b0 := meb 0
          rw [hn] at b0
          rw [sd_wid (z := (n : Int) + 1) (by omega) (by omega), if_neg (by omega), sd_wid (z := 0 + 1) (by omega) (by omega)]
          have z := cl_look_l (M := N1) mo f_X9_look_83 w 30 0 3999 (by omega) (by omega)
          have z' : f_X9_look_47 f_X9_look_83 3999 w (n : Int) 0 (ms_me (ms_pw WW (M 341)) (fun b => ms_co (WW b) (ms_bg (M 341)) 0) (R + 1)) (0 + 1) N1 = _ := z
          rw [z', f_X9_look_83]
          by_cases w0 : w = 0
          · rw [if_pos w0, if_pos w0]
            exact ms_t_r ⟨rfl, q1⟩
          · rw [if_neg w0, if_neg w0]
            exact ms_t_r ⟨rfl, q1⟩
        · have e : N 341 = M 341 := cl_qf_hi q (by omega)
          unfold f_X10_look
          rw [rf_sl1 (by rw [e]; exact c), Option.bind_some]
          simp only []
          rw [if_neg (by omega), rf_in1 d, Option.bind_some]
          simp only []
          rw [if_neg (by omega)]
          refine ms_t_b (rfx N hN q) (fun _ K hK => ?_)
          simp only []
          have a1 : ∀ d : Nat, d < 31 → 1 ≤ ms_me (ms_pw WW (M 341)) (fun b => ms_co (WW b) (ms_bg (M 341)) d) (R + 1) := fun d _ => (meb d).2 (by omega)
          have m0 := hK.2 0 (by omega)
          have m0' : f_X10_alikeAt 0 K = _ := m0
          have b0 := a1 0 (by omega)
          rw [f_X10_look_32, if_neg (by omega), m0', Option.bind_some]
          simp only [f_X10_look_71, f_X10_look_65]
          rw [if_neg (by omega), if_pos (by omega), sd_wid (by omega) (by omega)]
          have z := rf_look_l hK.2 a1 f_X10_look_77 w 30 0 3999 (by omega) (by omega)
          have z' : f_X10_look_32 f_X10_look_77 3999 w 0 (ms_me (ms_pw WW (M 341)) (fun b => ms_co (WW b) (ms_bg (M 341)) 0) (R + 1)) (0 + 1) K = _ := z
          rw [z', f_X10_look_77]
          by_cases w0 : w = 0
          · rw [if_pos w0, if_pos w0]
            exact ms_t_r ⟨rfl, hK.1⟩
          · rw [if_neg w0, if_neg w0]
            exact ms_t_r ⟨rfl, hK.1⟩
      · refine ⟨-2, ?_, fun N hN q => ?_⟩
        · unfold f_X9_look
          rw [if_neg (by omega), if_neg (by omega), if_pos (by omega), e1', Option.bind_some]
          simp only []
          rw [v1, hn, if_neg (by omega)]
          exact ms_t_r ⟨rfl, q1⟩
        · have e : N 341 = M 341 := cl_qf_hi q (by omega)
          unfold f_X10_look
          rw [rf_sl1 (by rw [e]; exact c), Option.bind_some]
          simp only []
          rw [if_neg (by omega), rf_in1 d, Option.bind_some]
          simp only []
          rw [if_neg (by omega)]
          refine ms_t_b (rfx N hN q) (fun _ K hK => ?_)
          simp only []
          have z := rf_look_0 (M := K) (fun d hd => by
            rw [hK.2 d hd]
            have := (meb d).1
            rw [show ms_me (ms_pw WW (M 341)) (fun b => ms_co (WW b) (ms_bg (M 341)) d) (R + 1) = 0 by omega]) f_X10_look_77 w 31 0 4000 (by omega) (by omega)
          have z' : f_X10_look_32 f_X10_look_77 4000 w (-2) (-2) 0 K = _ := z
          rw [z', f_X10_look_77]
          by_cases w0 : w = 0
          · rw [if_pos w0]
            exact ms_t_r ⟨rfl, hK.1⟩
          · rw [if_neg w0]
            exact ms_t_r ⟨rfl, hK.1⟩
    · refine ⟨-1, ?_, fun N hN q => ?_⟩
      · unfold f_X9_look
        rw [if_neg (by omega)]
        by_cases g : w < 0
        · rw [if_pos g]
          exact ms_t_r ⟨rfl, cl_qf_rf⟩
        · rw [if_neg g, if_neg (by omega)]
          exact ms_t_r ⟨rfl, cl_qf_rf⟩
      · unfold f_X10_look
        rw [rf_sl1 (by rw [cl_qf_hi q (show 331 ≤ 341 by omega)]; exact c), Option.bind_some]
        simp only []
        rw [if_neg (by omega), rf_in0 d, Option.bind_some]
        exact ms_t_r ⟨rfl, rf_q_rf⟩
  · refine ⟨-1, ?_, fun N hN q => ?_⟩
    · unfold f_X9_look
      rw [if_pos (by omega)]
      exact ms_t_r ⟨rfl, cl_qf_rf⟩
    · unfold f_X10_look
      rw [rf_sl0 (by rw [cl_qf_hi q (show 331 ≤ 341 by omega)]; exact c), Option.bind_some]
      exact ms_t_r ⟨rfl, rf_q_rf⟩)
