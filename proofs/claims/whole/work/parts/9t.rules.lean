/-! the class's loop of a test -/
def rl_w1 (a : Bool) : Int := if a = true then 1 else 0
def rl_wd (a o : Bool) : Nat := (rl_aw a).length + (rl_ow o).length
def rl_wp (a o : Bool) : List Bool := (if a = true then [true] else []) ++ (if o = true then [true] else [])
theorem rl_nx0 {B : Nat → Int} {n p : Nat} (pn : p < n) : p < tx_nx B n p ∧ tx_nx B n p ≤ n := by
  have l := tx_len_b (B := B) pn
  have s := tx_s_b (B := B) l.2
  unfold tx_nx
  rw [if_neg (by omega)]
  omega
theorem rl_nxw {B : Nat → Int} {n p : Nat} (hp : p ≤ n) (hbb : ∀ j, j < n → -128 ≤ B j ∧ B j < 128) (k : 600 ≤ tx_kd B n p) : p < tx_nx B n p ∧ tx_nx B n p ≤ n := rl_nx0 (tx_nx_w hp hbb k).1
theorem rl_cwd {B : Nat → Int} {n p R k : Nat} {C : List (Int × Int)} {N : sd_M} (hR : 16 ≤ R) (s : Int) (a : Bool) (g : sd_M → Option (Int × sd_M)) (rc : rl_c N R C k) (cs : tx_cs N B n p) (hC : C.length < 400) : ∃ N2, (if rl_w1 a = 0 then g N else (f_X4_add R s 0 N).bind fun r => g r.2) = g N2 ∧ rl_c N2 R (C ++ if a = true then [(s, 0)] else []) k ∧ tx_cs N2 B n p ∧ rl_f R N N2 := by
  cases a with
  | false =>
    rw [if_pos (show rl_w1 false = 0 from rfl), if_neg (show ¬ false = true by decide), List.append_nil]
    exact ⟨N, rfl, rc, cs, fun _ _ _ _ _ _ => rfl, fun _ _ _ => rfl, rfl⟩
  | true =>
    rw [if_neg (show ¬ rl_w1 true = 0 by decide), if_pos rfl]
    obtain ⟨N2, e, rc2, f2, lo⟩ := rl_add hR rc hC s 0
    rw [e, Option.bind_some]
    exact ⟨N2, rfl, rc2, rl_add_cs cs lo, f2⟩
theorem rl_99 {B : Nat → Int} {n p R k : Nat} {C : List (Int × Int)} {N : sd_M} (hR : 16 ≤ R) (k9 : Int → Int → Int → Int → sd_M → Option (Int × sd_M)) (gT gF : Nat → Int → sd_M → Option (Int × sd_M)) (d a b : Int) (i : Nat) (hi : i ≤ 400) (rc : rl_c N R C k) (cs : tx_cs N B n p) : ∃ N2, fb_X5_readsTest_99 k9 R gT gF d a b (i : Int) N = k9 d a b ((i + 1 : Nat) : Int) N2 ∧ rl_c N2 R C k ∧ tx_cs N2 B n (tx_nx B n p) ∧ rl_f R N N2 := by
  obtain ⟨N2, e, cs2, a1, a2⟩ := tx_step cs
  refine ⟨N2, ?_, rl_st_c hR ⟨a1, a2⟩ rc, cs2, rl_st_f hR ⟨a1, a2⟩⟩
  unfold fb_X5_readsTest_99
  rw [e, Option.bind_some, sd_wid (by omega) (by omega)]
  rfl
theorem rl_41 {B : Nat → Int} {n p R k : Nat} {C : List (Int × Int)} {N : sd_M} (hR : 16 ≤ R) (k9 : Int → Int → Int → Int → sd_M → Option (Int × sd_M)) (gT gF : Nat → Int → sd_M → Option (Int × sd_M)) (d : Int) (o : Bool) (i : Nat) (hi : i ≤ 400) (rc : rl_c N R C k) (cs : tx_cs N B n p) (hC : C.length < 400) : (tx_kd B n p = 614 → ∃ N2, fb_X5_readsTest_41 k9 R gT gF d (rl_w1 o) (i : Int) N = k9 d 1 (rl_w1 o) ((i + 1 : Nat) : Int) N2 ∧ rl_c N2 R C k ∧ tx_cs N2 B n (tx_nx B n p) ∧ rl_f R N N2) ∧ (tx_kd B n p = 615 → ∃ N2, fb_X5_readsTest_41 k9 R gT gF d (rl_w1 o) (i : Int) N = k9 d 0 1 ((i + 1 : Nat) : Int) N2 ∧ rl_c N2 R (C ++ rl_oc o) k ∧ tx_cs N2 B n (tx_nx B n p) ∧ rl_f R N N2) ∧ (tx_kd B n p ≠ 614 → tx_kd B n p ≠ 615 → ∃ N2, fb_X5_readsTest_41 k9 R gT gF d (rl_w1 o) (i : Int) N = some (1, N2) ∧ rl_c N2 R (C ++ rl_oc o) k ∧ tx_cs N2 B n p ∧ rl_f R N N2) := by
  have e41 : fb_X5_readsTest_41 k9 R gT gF d (rl_w1 o) (i : Int) N = if tx_kd B n p = 614 then (fb_X5_readsTest_56 k9 R gT gF d (rl_w1 o) (i : Int) 1 N) else (fb_X5_readsTest_56 k9 R gT gF d (rl_w1 o) (i : Int) 0 N) := by
    unfold fb_X5_readsTest_41
    rw [tx_kind cs, Option.bind_some]
  obtain ⟨N1, e1, rc1, cs1, fr1⟩ := rl_cwd hR 13 o (fb_X5_readsTest_75 k9 R gT gF d 0 (i : Int)) rc cs hC
  have e56 : fb_X5_readsTest_56 k9 R gT gF d (rl_w1 o) (i : Int) 0 N = if tx_kd B n p = 615 then (fb_X5_readsTest_90 k9 R gT gF d 0 (i : Int) 1 N1) else (fb_X5_readsTest_90 k9 R gT gF d 0 (i : Int) 0 N1) := by
    unfold fb_X5_readsTest_56
    rw [if_pos rfl, e1]
    unfold fb_X5_readsTest_75
    rw [tx_kind cs1, Option.bind_some]
  refine ⟨fun h => ?_, fun h => ?_, fun h1 h2 => ?_⟩
  · obtain ⟨N2, e2, rc2, cs2, fr2⟩ := rl_99 hR k9 gT gF d 1 (rl_w1 o) i hi rc cs
    refine ⟨N2, ?_, rc2, cs2, fr2⟩
    rw [e41, if_pos h]
    unfold fb_X5_readsTest_56
    rw [if_neg (show ¬ (1 : Int) = 0 by decide), e2]
  · obtain ⟨N2, e2, rc2, cs2, fr2⟩ := rl_99 hR k9 gT gF d 0 1 i hi rc1 cs1
    refine ⟨N2, ?_, rc2, cs2, rl_f_tr fr1 fr2⟩
    rw [e41, if_neg (by omega), e56, if_pos h]
    unfold fb_X5_readsTest_90
    rw [if_neg (show ¬ (1 : Int) = 0 by decide), e2]
  · refine ⟨N1, ?_, rc1, cs1, fr1⟩
    rw [e41, if_neg h1, e56, if_neg h2]
    unfold fb_X5_readsTest_90
    rw [if_pos rfl]
theorem rl_t_ao {s : Int} (hs : s = 12 ∨ s = 13) (t : List Bool) : ms_t1 s 0 (true :: true :: t) = some (true :: t) := by
  unfold ms_t1
  rw [if_neg (by omega), if_neg (by omega), if_neg (by omega), if_neg (by omega), if_neg (by omega), if_pos (by omega)]
theorem rl_t_n (t : List Bool) : ms_t1 14 0 (true :: t) = some (true :: t) := by
  unfold ms_t1
  rw [if_neg (by decide), if_neg (by decide), if_pos rfl]
theorem rl_t_ac {a o : Bool} (t : List Bool) : rl_t (rl_ac a) (true :: (rl_wp a o ++ t)) = some (true :: (rl_wp false o ++ t)) := by
  cases a with
  | false => rfl
  | true =>
    have e := rl_t_ao (s := 12) (Or.inl rfl) (rl_wp false o ++ t)
    rw [show rl_ac true = [(12, 0)] from rfl, rl_t, show true :: (rl_wp true o ++ t) = true :: true :: (rl_wp false o ++ t) from rfl]
    rw [show (((12 : Int), (0 : Int)).1) = 12 from rfl, show (((12 : Int), (0 : Int)).2) = 0 from rfl, e, Option.bind_some, rl_t]
theorem rl_t_oc {o : Bool} (t : List Bool) : rl_t (rl_oc o) (true :: (rl_wp false o ++ t)) = some (true :: t) := by
  cases o with
  | false => rfl
  | true =>
    have e := rl_t_ao (s := 13) (Or.inr rfl) t
    rw [show rl_oc true = [(13, 0)] from rfl, rl_t, show true :: (rl_wp false true ++ t) = true :: true :: t from rfl]
    rw [show (((13 : Int), (0 : Int)).1) = 13 from rfl, show (((13 : Int), (0 : Int)).2) = 0 from rfl, e, Option.bind_some, rl_t]
theorem rl_cd_ac {a : Bool} : rl_cd (rl_ac a) := by
  cases a with
  | false => exact fun x hx => absurd hx (by simp [rl_ac])
  | true =>
    intro x hx
    rw [List.mem_singleton.mp hx]
    simp only []
    omega
theorem rl_cd_oc {a : Bool} : rl_cd (rl_oc a) := by
  cases a with
  | false => exact fun x hx => absurd hx (by simp [rl_oc])
  | true =>
    intro x hx
    rw [List.mem_singleton.mp hx]
    simp only []
    omega
theorem rl_wd_e {a o : Bool} : rl_wd a o = (rl_ac a).length + (rl_oc o).length ∧ (rl_ac a).length ≤ 1 ∧ (rl_oc o).length ≤ 1 ∧ (rl_wp a o).length = rl_wd a o := by
  cases a <;> cases o <;> decide
/-! what is claimed of a fact, and of a test -/
def rl_RF (B : Nat → Int) (n r d : Nat) (x : rl_R) (K : sd_M) (m k fuF : Nat) (st : List Int) : Prop := rl_p x (fun f => ∃ L, rl_F m fuF K = some (0, L) ∧ L 331 9 = f ∧ rl_q2 r K L) (fun p2 k2 D => ∃ L m2 fuC fuL, rl_F m fuF K = rl_G m2 fuC fuL L ∧ (m + k + 1 ≤ m2 + k2 ∧ 3000 + d ≤ fuC ∧ 3000 + d ≤ fuL) ∧ rl_r L r D k2 ∧ tx_rs L B n p2 ∧ rl_sk L st ∧ rl_q2 r K L)
def rl_RT2 (B : Nat → Int) (n r d : Nat) (x : rl_R) (K : sd_M) (m k fuF : Nat) (st : List Int) : Prop := rl_p x (fun f => ∃ L, rl_F m fuF K = some (0, L) ∧ L 331 9 = f ∧ rl_q2 r K L) (fun p2 k2 D => ∃ L m2 fuC fuL a2 o2 D0, rl_F m fuF K = rl_G m2 fuC fuL L ∧ (m + k + 1 ≤ m2 + k2 ∧ 3000 + d ≤ fuC ∧ 3000 + d ≤ fuL) ∧ D = D0 ++ rl_ac a2 ++ rl_oc o2 ∧ rl_r L r D0 k2 ∧ tx_rs L B n p2 ∧ rl_sk L (rl_aw a2 ++ (rl_ow o2 ++ st)) ∧ rl_q2 r K L)
def rl_CF (B : Nat → Int) (n R r q d : Nat) : Prop := ∀ (p k : Nat) (C : List (Int × Int)), k ≤ 60 → C.length < p → p ≤ n → ∃ x : rl_R, rl_p x (fun f => 0 < f) (rl_ok n p k 0 [] true C) ∧ (∀ M : sd_M, tx_cs M B n p → rl_c M R C k → rl_Cl B n R x M (f_X5_rc q false R (d : Int) M)) ∧ ∀ (K : sd_M) (st : List Int) (m fuF : Nat), tx_rs K B n p → rl_r K r C k → rl_sk K st → rl_dp st = d → st.length ≤ 3 * d + 2 → 61 ≤ m + k → 12 ≤ fuF + d → rl_RF B n r d x K m k fuF st
def rl_to (B : Nat → Int) (n p k : Nat) (a o : Bool) (C : List (Int × Int)) (p2 k2 : Nat) (D : List (Int × Int)) : Prop := rl_ok n p k (rl_wd a o) (rl_wp a o) true C p2 k2 D ∧ tx_kd B n p2 ≠ 614 ∧ tx_kd B n p2 ≠ 615
def rl_CT (B : Nat → Int) (n R r q d : Nat) : Prop := ∀ (p k : Nat) (C : List (Int × Int)), k ≤ 60 → C.length < p → p ≤ n → ∃ x : rl_R, rl_p x (fun f => 0 < f) (rl_to B n p k false false C) ∧ (∀ M : sd_M, tx_cs M B n p → rl_c M R C k → rl_Cl B n R x M (f_X5_rc q true R (d : Int) M)) ∧ ∀ (K : sd_M) (st : List Int) (m fuF : Nat), tx_rs K B n p → rl_r K r C k → rl_sk K st → rl_b0 st → rl_dp st = d → st.length ≤ 3 * d → 61 ≤ m + k → 12 ≤ fuF + d → rl_RT2 B n r d x K m k fuF st
