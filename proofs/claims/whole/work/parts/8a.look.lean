/-! where to look next -/
def ms_mx (f : Nat → Int) : Nat → Int
  | 0 => 0
  | n + 1 => if ms_mx f n < f n then f n else ms_mx f n
theorem ms_mx_c {f g : Nat → Int} : ∀ n, (∀ i, i < n → f i = g i) → ms_mx f n = ms_mx g n
  | 0, _ => rfl
  | n + 1, h => by rw [ms_mx, ms_mx, ms_mx_c n (fun i hi => h i (by omega)), h n (by omega)]
theorem ms_mx_b {f : Nat → Int} {b : Int} (hb : 0 ≤ b) : ∀ n, (∀ i, i < n → f i ≤ b) → 0 ≤ ms_mx f n ∧ ms_mx f n ≤ b
  | 0, _ => ⟨Int.le_refl _, hb⟩
  | n + 1, h => by
    have a := ms_mx_b hb n (fun i hi => h i (by omega))
    have c := h n (by omega)
    rw [ms_mx]
    split <;> omega
theorem ms_mx_ge {f : Nat → Int} : ∀ n i, i < n → f i ≤ ms_mx f n
  | 0, i, h => absurd h (by omega)
  | n + 1, i, h => by
    rw [ms_mx]
    by_cases e : i = n
    · subst e
      split <;> omega
    · have := ms_mx_ge (f := f) n i (by omega)
      split <;> omega
/-- those that fit, one behind the other: how many are alike -/
theorem ms_cc {P : Nat → Bool} {Y x : Nat → Int} {v : Int} : ∀ i, (∀ b, b < i → P b = true → Y (ms_ct P b).toNat = x b) → ms_ct (fun j => decide (v = Y j)) (ms_ct P i).toNat = ms_ct (fun b => P b && decide (v = x b)) i
  | 0, _ => rfl
  | i + 1, h => by
    have ih := ms_cc (P := P) (Y := Y) (x := x) (v := v) i (fun b hb => h b (by omega))
    have cb := ms_ct_b (p := P) i
    have c1 : ms_ct P (i + 1) = ms_ct P i + if P i = true then 1 else 0 := rfl
    have c2 : ms_ct (fun b => P b && decide (v = x b)) (i + 1) = ms_ct (fun b => P b && decide (v = x b)) i + if (P i && decide (v = x i)) = true then 1 else 0 := rfl
    rw [c1, c2]
    cases e : P i
    · rw [if_neg (by simp), Int.add_zero, ih, Bool.false_and, if_neg (by simp), Int.add_zero]
    · rw [if_pos rfl, show (ms_ct P i + 1).toNat = (ms_ct P i).toNat + 1 by omega]
      have c3 : ms_ct (fun j => decide (v = Y j)) ((ms_ct P i).toNat + 1) = ms_ct (fun j => decide (v = Y j)) (ms_ct P i).toNat + if decide (v = Y (ms_ct P i).toNat) = true then 1 else 0 := rfl
      rw [c3, ih, h i (by omega) e, Bool.true_and]
theorem ms_cm {P : Nat → Bool} {Y x : Nat → Int} {g : Int → Int} (hg : ∀ v, 0 ≤ g v) : ∀ i, (∀ b, b < i → P b = true → Y (ms_ct P b).toNat = x b) → ms_mx (fun j => g (Y j)) (ms_ct P i).toNat = ms_mx (fun b => if P b = true then g (x b) else 0) i
  | 0, _ => rfl
  | i + 1, h => by
    have ih := ms_cm (P := P) (Y := Y) (x := x) (g := g) hg i (fun b hb => h b (by omega))
    have cb := ms_ct_b (p := P) i
    have c1 : ms_ct P (i + 1) = ms_ct P i + if P i = true then 1 else 0 := rfl
    have c2 : ms_mx (fun b => if P b = true then g (x b) else 0) (i + 1) = if ms_mx (fun b => if P b = true then g (x b) else 0) i < (if P i = true then g (x i) else 0) then (if P i = true then g (x i) else 0) else ms_mx (fun b => if P b = true then g (x b) else 0) i := rfl
    rw [c1, c2, ← ih]
    cases e : P i
    · have nn : 0 ≤ ms_mx (fun j => g (Y j)) (ms_ct P i).toNat := by
        have : ∀ n, 0 ≤ ms_mx (fun j => g (Y j)) n := fun n => by
          induction n with
          | zero => exact Int.le_refl _
          | succ n ih2 =>
            rw [ms_mx]
            split <;> omega
        exact this _
      simp only [Bool.false_eq_true, if_false, Int.add_zero]
      rw [if_neg (by omega)]
    · simp only [if_true]
      rw [show (ms_ct P i + 1).toNat = (ms_ct P i).toNat + 1 by omega]
      have c3 : ms_mx (fun j => g (Y j)) ((ms_ct P i).toNat + 1) = if ms_mx (fun j => g (Y j)) (ms_ct P i).toNat < g (Y (ms_ct P i).toNat) then g (Y (ms_ct P i).toNat) else ms_mx (fun j => g (Y j)) (ms_ct P i).toNat := rfl
      rw [c3, h i (by omega) e]
/-- the most alike of those that fit -/
def ms_me (P : Nat → Bool) (x : Nat → Int) (n : Nat) : Int := ms_mx (fun a => if P a = true then ms_ct (fun b => P b && decide (x a = x b)) n else 0) n
theorem ms_me_y {P : Nat → Bool} {Y x : Nat → Int} {n : Nat} (h : ∀ b, b < n → P b = true → Y (ms_ct P b).toNat = x b) : ms_mx (fun i => ms_ct (fun j => decide (Y i = Y j)) (ms_ct P n).toNat) (ms_ct P n).toNat = ms_me P x n := by
  have a := ms_cm (P := P) (Y := Y) (x := x) (g := fun v => ms_ct (fun j => decide (v = Y j)) (ms_ct P n).toNat) (fun v => (ms_ct_b _).1) n h
  rw [a]
  unfold ms_me
  refine ms_mx_c n (fun i hi => ?_)
  rw [ms_cc n h]
theorem ms_me_b {P : Nat → Bool} {x : Nat → Int} {n : Nat} : (0 ≤ ms_me P x n ∧ ms_me P x n ≤ ms_ct P n) ∧ (1 ≤ ms_ct P n → 1 ≤ ms_me P x n) := by
  have cb := ms_ct_b (p := P) n
  constructor
  · refine ms_mx_b cb.1 n (fun i hi => ?_)
    split
    · exact ms_ct_m n (fun k hk e => by
        simp only [Bool.and_eq_true] at e
        exact e.1)
    · exact cb.1
  · intro h1
    have ex : ∃ a, a < n ∧ P a = true := by
      by_cases c : ∃ a, a < n ∧ P a = true
      · exact c
      · have := ms_ct_z (p := P) n (fun j hj => by
          cases e : P j
          · rfl
          · exact absurd ⟨j, hj, e⟩ c)
        omega
    obtain ⟨a, ha, pa⟩ := ex
    have g := ms_mx_ge (f := fun a => if P a = true then ms_ct (fun b => P b && decide (x a = x b)) n else 0) n a ha
    simp only [pa, if_true] at g
    have p := ms_ct_p (P := fun b => P b && decide (x a = x b)) (k := a) (by simp [pa]) n ha
    unfold ms_me
    omega
/-! the class: whom each rule that fits takes -/
theorem cl_cour_44 {M0 : sd_M} (h : sd_Iv M0) {T : Nat → Int} {W : (Nat → Int) → Int → Int} {rl : Option Nat} (hT : ms_ok T) (t0 : T 58 = 0) (tt : ∀ i, (i = 2 ∨ i = 3 ∨ (22 ≤ i ∧ i < 58)) → T i = M0 341 i) (hW : cl_W M0 rl W) {c : Nat} (hc : c < 7) (num : Int) (kk : Int → Int → Int → sd_M → Option (Int × sd_M)) : ∀ (m k fu : Nat) (M : sd_M), k + m = 31 → m < fu → cl_qf M0 M → cl_bk M 318 (ms_pn W T k) → ∃ N, cl_qf M0 N ∧ (∀ i, i < 31 * c + k → N 329 i = M 329 i) ∧ (ms_ac (M0 341) (ms_co W T) m k = true → ∀ d, k ≤ d → d < 31 → N 329 (31 * c + d) = ms_co W T d) ∧ f_X9_layCourses_44 kk fu (c : Int) num rl 1 (k : Int) M = kk (c : Int) num (if ms_ac (M0 341) (ms_co W T) m k = true then 1 else 0) N := by
  have no := (iv_sl h).2.2
  intro m
  induction m with
  | zero =>
    intro k fu M hk hf q b
    obtain ⟨fu, rfl⟩ : ∃ g, fu = g + 1 := ⟨fu - 1, by omega⟩
    refine ⟨M, q, fun _ _ => rfl, fun _ d x y => by omega, ?_⟩
    rw [f_X9_layCourses_44, if_pos (by omega), ms_ac, if_pos rfl]
  | succ m ih =>
    intro k fu M hk hf q b
    obtain ⟨fu, rfl⟩ : ∃ g, fu = g + 1 := ⟨fu - 1, by omega⟩
    have p := ms_pn_p (W := W) hT k
    obtain ⟨v, N, e1, v1, b1, q1⟩ := cl_step h q p.1 b (fun i hi => by rw [p.2.2 i (by omega), tt i hi]) (by rw [p.2.1]; omega) hW
    have vk : v = ms_co W T k := v1
    have q2 : cl_qf M0 (sd_s N 329 (31 * c + k) v) := cl_qf_tr q1 (cl_qf_s (by omega))
    have nt : cl_nt (sd_s N 329 (31 * c + k) v) 74 (M0 341) := cl_nt_c (iv_nt h) (fun a x y => cl_qf_mi q2 (by omega))
    have b2 : cl_bk (sd_s N 329 (31 * c + k) v) 318 (ms_pn W T (k + 1)) := cl_bk_c (ms_pn_p (W := W) hT (k + 1)).1 b1 (fun _ _ => rfl) (fun a x y => sd_s_a (by omega))
    obtain ⟨w, N0, f1, f2⟩ : ∃ w N0, f_X1_pass 318 rl M = some (w, N0) ∧ N0 329 = M 329 := by
      obtain ⟨w, N0, g1, g2, g3, g4⟩ := cl_pass (M := M) (b := 318) (by omega) p.1 b (cl_tn_c (iv_tn h) (iv_ok h).1.2.2.1.2 (fun a x y => cl_qf_mi q (by omega)) (fun i hi => by rw [p.2.2 i (by omega), tt i hi])) (by rw [p.2.1]; omega) (cl_W_q hW q)
      exact ⟨w, N0, g1, g4 329 (by omega) (fun r _ => by omega) (by omega)⟩
    have nn : N 329 = M 329 := by
      rw [e1] at f1
      have := congrArg Prod.snd (Option.some.inj f1)
      simp only [] at this
      rw [this]
      exact f2
    have st : f_X9_layCourses_44 kk (fu + 1) (c : Int) num rl 1 (k : Int) M = f_X9_layCourses_44 kk fu (c : Int) num rl (if ms_an (M0 341) (k : Int) (ms_co W T k) = true then 1 else 0) ((k : Int) + 1) (sd_s N 329 (31 * c + k) v) := by
      rw [f_X9_layCourses_44, if_neg (by omega), if_neg (by omega), e1, Option.bind_some]
      simp only []
      rw [sd_wid (z := (c : Int) * 31) (by omega) (by omega), sd_wid (z := (c : Int) * 31 + (k : Int)) (by omega) (by omega), if_pos (by omega), show ((c : Int) * 31 + (k : Int)).toNat = 31 * c + k by omega, cl_allow no nt, Option.bind_some, vk, sd_wid (by omega) (by omega)]
    rw [ms_ac]
    cases e : ms_an (M0 341) (k : Int) (ms_co W T k)
    · rw [e, if_neg (by simp)] at st
      refine ⟨sd_s N 329 (31 * c + k) v, q2, fun i hi => by rw [sd_s_j (by omega), nn], fun x => absurd x (by simp), ?_⟩
      obtain ⟨fu, rfl⟩ : ∃ g, fu = g + 1 := ⟨fu - 1, by omega⟩
      simp only [Bool.false_eq_true, if_false]
      rw [st, f_X9_layCourses_44]
      by_cases z : 31 ≤ (k : Int) + 1
      · rw [if_pos z]
      · rw [if_neg z, if_pos rfl]
    · rw [e, if_pos rfl] at st
      simp only [if_true]
      obtain ⟨K, k1, k2, k3, k4⟩ := ih (k + 1) fu (sd_s N 329 (31 * c + k) v) (by omega) (by omega) q2 b2
      refine ⟨K, k1, fun i hi => by rw [k2 i (by omega), sd_s_j (by omega), nn], fun x d y z => ?_, ?_⟩
      · by_cases dk : d = k
        · rw [dk, k2 _ (by omega), sd_s_at, vk]
        · exact k3 x d (by omega) z
      · push_cast at k4
        rw [st]
        exact k4
theorem cl_cour_4 {M0 : sd_M} (h : sd_Iv M0) {WW : Nat → (Nat → Int) → Int → Int} (hW : ∀ i : Nat, (i : Int) ≤ M0 331 2 → cl_W M0 (cl_ra ((i : Int) - 1) (M0 0 4)) (WW i)) {R : Nat} (hR : M0 331 2 = R) : ∀ (m i fu : Nat) (M : sd_M), i + m = R + 1 → m < fu → cl_qf M0 M → (∀ b, b < i → ms_pw WW (M0 341) b = true → ∀ d, d < 31 → M 329 (31 * (ms_ct (ms_pw WW (M0 341)) b).toNat + d) = ms_co (WW b) (ms_bg (M0 341)) d) → ms_T (f_X9_layCourses_4 fu (ms_ct (ms_pw WW (M0 341)) i) ((i : Int) - 1) M) (fun r N => r = ms_ct (ms_pw WW (M0 341)) (R + 1) ∧ cl_qf M0 N ∧ ∀ b, b < R + 1 → ms_pw WW (M0 341) b = true → ∀ d, d < 31 → N 329 (31 * (ms_ct (ms_pw WW (M0 341)) b).toNat + d) = ms_co (WW b) (ms_bg (M0 341)) d) := by
  have ok := iv_ok h
  have r1 := h.2.1.1
  intro m
  induction m with
  | zero =>
    intro i fu M hi hf q g
    obtain ⟨fu, rfl⟩ : ∃ g, fu = g + 1 := ⟨fu - 1, by omega⟩
    rw [f_X9_layCourses_4, q 0 (by omega) (fun r _ => by omega), if_pos (by omega)]
    rw [show i = R + 1 by omega] at g ⊢
    exact ms_t_r ⟨rfl, q, g⟩
  | succ m ih =>
    intro i fu M hi hf q g
    obtain ⟨fu, rfl⟩ : ∃ g, fu = g + 1 := ⟨fu - 1, by omega⟩
    have hM := cl_qf_iv h q
    have e : M 341 = M0 341 := cl_qf_hi q (by omega)
    have tw := iv_tw hM
    rw [e] at tw
    have cb := ms_ct_b (p := ms_pw WW (M0 341)) i
    obtain ⟨c, hc⟩ : ∃ c : Nat, ms_ct (ms_pw WW (M0 341)) i = c := ⟨(ms_ct (ms_pw WW (M0 341)) i).toNat, by omega⟩
    rw [f_X9_layCourses_4, q 0 (by omega) (fun r _ => by omega), if_neg (by omega), if_neg (by omega), cl_ruleAt, Option.bind_some]
    simp only []
    rw [q 0 (by omega) (fun r _ => by omega)]
    refine ms_t_b (cl_begin_k (M := M) (b := 318) (by omega) ok.1 tw) (fun _ N hN => ?_)
    simp only []
    have q2 : cl_qf M0 N := cl_qf_tr q (cl_qf_fr hN.2)
    obtain ⟨K, k1, k2, k3, k4⟩ := cl_cour_44 h (ms_bg_ok ok.1) (ms_bg_0 ok.1.2.1.2 (by omega) (by omega) (by omega)) (fun j hj => ms_bg_lo (by omega)) (hW i (by omega)) (c := c) (by omega) ((i : Int) - 1) (f_X9_layCourses_113 (f_X9_layCourses_4 fu)) 31 0 4000 N (by omega) (by omega) q2 hN.1
    have k4' : f_X9_layCourses_44 (f_X9_layCourses_113 (f_X9_layCourses_4 fu)) 4000 (c : Int) ((i : Int) - 1) (cl_ra ((i : Int) - 1) (M0 0 4)) 1 0 N = _ := k4
    rw [hc, k4']
    simp only [f_X9_layCourses_113, f_X9_layCourses_121]
    rw [sd_wid (z := (i : Int) - 1 + 1) (by omega) (by omega)]
    have pe : ms_ac (M0 341) (ms_co (WW i) (ms_bg (M0 341))) 31 0 = ms_pw WW (M0 341) i := rfl
    rw [pe] at k3 ⊢
    have ct1 : ms_ct (ms_pw WW (M0 341)) (i + 1) = ms_ct (ms_pw WW (M0 341)) i + if ms_pw WW (M0 341) i = true then 1 else 0 := rfl
    have old : ∀ b, b < i → ms_pw WW (M0 341) b = true → ∀ d, d < 31 → K 329 (31 * (ms_ct (ms_pw WW (M0 341)) b).toNat + d) = ms_co (WW b) (ms_bg (M0 341)) d := fun b hb pb d hd => by
      have s := ms_ct_n (p := ms_pw WW (M0 341)) (b + 1) (i - (b + 1))
      have s2 : ms_ct (ms_pw WW (M0 341)) (b + 1) = ms_ct (ms_pw WW (M0 341)) b + 1 := by
        rw [ms_ct, if_pos pb]
      have s3 := ms_ct_b (p := ms_pw WW (M0 341)) b
      rw [show b + 1 + (i - (b + 1)) = i by omega] at s
      rw [k2 _ (by omega), hN.2 329 (by omega)]
      exact g b hb pb d hd
    cases x : ms_pw WW (M0 341) i
    · rw [x, if_neg (by simp), Int.add_zero, hc] at ct1
      rw [ms_i0 (by simp), if_pos rfl]
      have up := ih (i + 1) fu K (by omega) (by omega) k1 (fun b hb pb d hd => by
        by_cases bi : b = i
        · rw [bi, x] at pb
          exact absurd pb (by simp)
        · exact old b (by omega) pb d hd)
      rw [ct1] at up
      push_cast at up
      rw [show (i : Int) + 1 - 1 = (i : Int) - 1 + 1 by omega] at up
      exact up
    · rw [x, if_pos rfl, hc] at ct1
      rw [ms_i1 rfl, if_neg (by omega), sd_wid (by omega) (by omega)]
      have up := ih (i + 1) fu K (by omega) (by omega) k1 (fun b hb pb d hd => by
        by_cases bi : b = i
        · rw [bi, hc, Int.toNat_natCast]
          exact k3 x d (by omega) hd
        · exact old b (by omega) pb d hd)
      rw [ct1] at up
      push_cast at up
      rw [show (i : Int) + 1 - 1 = (i : Int) - 1 + 1 by omega] at up
      exact up
theorem cl_most_24 {M : sd_M} {d many a : Nat} (hd : d < 31) (hm : many ≤ 7) (ha : a < many) (kk : Int → Int → Int → Int → Int → sd_M → Option (Int × sd_M)) (v3 : Int) : ∀ (m j fu : Nat), j + m = many → m < fu → f_X9_mostAlike_24 kk fu (d : Int) (many : Int) v3 (a : Int) (ms_ct (fun j => decide (M 329 (31 * a + d) = M 329 (31 * j + d))) j) (j : Int) M = kk (d : Int) (many : Int) v3 (a : Int) (ms_ct (fun j => decide (M 329 (31 * a + d) = M 329 (31 * j + d))) many) M := by
  intro m
  induction m with
  | zero =>
    intro j fu hj hf
    obtain ⟨fu, rfl⟩ : ∃ g, fu = g + 1 := ⟨fu - 1, by omega⟩
    rw [f_X9_mostAlike_24, if_pos (by omega), show j = many by omega]
  | succ m ih =>
    intro j fu hj hf
    obtain ⟨fu, rfl⟩ : ∃ g, fu = g + 1 := ⟨fu - 1, by omega⟩
    have cb := ms_ct_b (p := fun j => decide (M 329 (31 * a + d) = M 329 (31 * j + d))) j
    have up := ih (j + 1) fu (by omega) (by omega)
    rw [ms_ct] at up
    push_cast at up
    rw [f_X9_mostAlike_24, if_neg (by omega), if_neg (by omega), sd_wid (z := (a : Int) * 31) (by omega) (by omega), sd_wid (z := (a : Int) * 31 + (d : Int)) (by omega) (by omega), if_pos (by omega), sd_wid (z := (j : Int) * 31) (by omega) (by omega), sd_wid (z := (j : Int) * 31 + (d : Int)) (by omega) (by omega), if_pos (by omega), show ((a : Int) * 31 + (d : Int)).toNat = 31 * a + d by omega, show ((j : Int) * 31 + (d : Int)).toNat = 31 * j + d by omega, f_X9_mostAlike_67, f_X9_mostAlike_67, sd_wid (z := (j : Int) + 1) (by omega) (by omega)]
    by_cases c : M 329 (31 * a + d) = M 329 (31 * j + d)
    · rw [if_pos (by simp [c])] at up
      rw [if_pos c, sd_wid (by omega) (by omega)]
      exact up
    · rw [if_neg (by simp [c]), Int.add_zero] at up
      rw [if_neg c]
      exact up
theorem cl_most {M : sd_M} {d many : Nat} (hd : d < 31) (hm : many ≤ 7) : ∀ (m a fu : Nat), a + m = many → m < fu → f_X9_mostAlike_5 fu (d : Int) (many : Int) (ms_mx (fun i => ms_ct (fun j => decide (M 329 (31 * i + d) = M 329 (31 * j + d))) many) a) (a : Int) M = some (ms_mx (fun i => ms_ct (fun j => decide (M 329 (31 * i + d) = M 329 (31 * j + d))) many) many, M) := by
  intro m
  induction m with
  | zero =>
    intro a fu hj hf
    obtain ⟨fu, rfl⟩ : ∃ g, fu = g + 1 := ⟨fu - 1, by omega⟩
    rw [f_X9_mostAlike_5, if_pos (by omega), show a = many by omega]
  | succ m ih =>
    intro a fu hj hf
    obtain ⟨fu, rfl⟩ : ∃ g, fu = g + 1 := ⟨fu - 1, by omega⟩
    have up := ih (a + 1) fu (by omega) (by omega)
    rw [ms_mx] at up
    push_cast at up
    have z := cl_most_24 (M := M) (d := d) (many := many) (a := a) hd hm (by omega) (f_X9_mostAlike_73 (f_X9_mostAlike_5 fu)) (ms_mx (fun i => ms_ct (fun j => decide (M 329 (31 * i + d) = M 329 (31 * j + d))) many) a) many 0 4000 (by omega) (by omega)
    have z' : f_X9_mostAlike_24 (f_X9_mostAlike_73 (f_X9_mostAlike_5 fu)) 4000 (d : Int) (many : Int) (ms_mx (fun i => ms_ct (fun j => decide (M 329 (31 * i + d) = M 329 (31 * j + d))) many) a) (a : Int) 0 0 M = _ := z
    rw [f_X9_mostAlike_5, if_neg (by omega), if_neg (by omega), z', f_X9_mostAlike_73, sd_wid (by omega) (by omega)]
    exact up
theorem rf_alike_18 {M : sd_M} {WW : Nat → (Nat → Int) → Int → Int} {S : Nat → Int} {R : Nat} (r6 : R ≤ 6) (hR : M 331 2 = R) (ft : rf_ft M WW S (R + 1)) {d a : Nat} (hd : d < 31) (ha : a < R + 1) (kk : Int → Int → Int → Int → sd_M → Option (Int × sd_M)) (v2 : Int) (pa : ms_pw WW S a = true) : ∀ (m b fu : Nat), b + m = R + 1 → m < fu → f_X10_alikeAt_18 kk fu (d : Int) v2 (a : Int) (ms_ct (fun b => ms_pw WW S b && decide (ms_co (WW a) (ms_bg S) d = ms_co (WW b) (ms_bg S) d)) b) (b : Int) M = kk (d : Int) v2 (a : Int) (ms_ct (fun b => ms_pw WW S b && decide (ms_co (WW a) (ms_bg S) d = ms_co (WW b) (ms_bg S) d)) (R + 1)) M := by
  intro m
  induction m with
  | zero =>
    intro b fu hb hf
    obtain ⟨fu, rfl⟩ : ∃ g, fu = g + 1 := ⟨fu - 1, by omega⟩
    rw [f_X10_alikeAt_18, hR, if_pos (by omega), show b = R + 1 by omega]
  | succ m ih =>
    intro b fu hb hf
    obtain ⟨fu, rfl⟩ : ∃ g, fu = g + 1 := ⟨fu - 1, by omega⟩
    have cb := ms_ct_b (p := fun b => ms_pw WW S b && decide (ms_co (WW a) (ms_bg S) d = ms_co (WW b) (ms_bg S) d)) b
    have up := ih (b + 1) fu (by omega) (by omega)
    rw [ms_ct] at up
    push_cast at up
    have fa := ft a ha
    have fb := ft b (by omega)
    rw [pa, if_pos rfl] at fa
    rw [f_X10_alikeAt_18, hR, if_neg (by omega), if_pos (show 0 ≤ (a : Int) ∧ (a : Int) < 7 by omega), Int.toNat_natCast, fa.1, if_neg (show ¬ (1 : Int) = 0 by omega), if_pos (show 0 ≤ (b : Int) ∧ (b : Int) < 7 by omega), Int.toNat_natCast, fb.1, sd_wid (z := 31 * (a : Int)) (by omega) (by omega), sd_wid (z := 31 * (a : Int) + (d : Int)) (by omega) (by omega), sd_wid (z := 31 * (b : Int)) (by omega) (by omega), sd_wid (z := 31 * (b : Int) + (d : Int)) (by omega) (by omega), if_pos (show 0 ≤ 31 * (a : Int) + (d : Int) ∧ 31 * (a : Int) + (d : Int) < 217 by omega), if_pos (show 0 ≤ 31 * (b : Int) + (d : Int) ∧ 31 * (b : Int) + (d : Int) < 217 by omega), show (31 * (a : Int) + (d : Int)).toNat = 31 * a + d by omega, show (31 * (b : Int) + (d : Int)).toNat = 31 * b + d by omega, fa.2 d hd, fb.2 d hd]
    simp only [f_X10_alikeAt_78, f_X10_alikeAt_79]
    rw [sd_wid (z := (b : Int) + 1) (by omega) (by omega), Int.add_zero, sd_wid (by omega) (by omega), sd_wid (by omega) (by omega)]
    cases e : ms_pw WW S b
    · rw [e, Bool.false_and, if_neg (by simp), Int.add_zero] at up
      rw [ms_i0 (by simp), if_pos rfl]
      exact up
    · rw [e, Bool.true_and] at up
      rw [ms_i1 rfl, if_neg (by omega)]
      by_cases c : ms_co (WW a) (ms_bg S) d = ms_co (WW b) (ms_bg S) d
      · rw [if_pos (by simp [c])] at up
        rw [if_pos c]
        exact up
      · rw [if_neg (by simp [c]), Int.add_zero] at up
        rw [if_neg c]
        exact up
theorem rf_alike {M : sd_M} {WW : Nat → (Nat → Int) → Int → Int} {S : Nat → Int} {R : Nat} (r6 : R ≤ 6) (hR : M 331 2 = R) (ft : rf_ft M WW S (R + 1)) {d : Nat} (hd : d < 31) : ∀ (m a fu : Nat), a + m = R + 1 → m < fu → f_X10_alikeAt_4 fu (d : Int) (ms_mx (fun a => if ms_pw WW S a = true then ms_ct (fun b => ms_pw WW S b && decide (ms_co (WW a) (ms_bg S) d = ms_co (WW b) (ms_bg S) d)) (R + 1) else 0) a) (a : Int) M = some (ms_me (ms_pw WW S) (fun b => ms_co (WW b) (ms_bg S) d) (R + 1), M) := by
  intro m
  induction m with
  | zero =>
    intro a fu ha hf
    obtain ⟨fu, rfl⟩ : ∃ g, fu = g + 1 := ⟨fu - 1, by omega⟩
    rw [f_X10_alikeAt_4, hR, if_pos (by omega), show a = R + 1 by omega]
    rfl
  | succ m ih =>
    intro a fu ha hf
    obtain ⟨fu, rfl⟩ : ∃ g, fu = g + 1 := ⟨fu - 1, by omega⟩
    have up := ih (a + 1) fu (by omega) (by omega)
    rw [ms_mx] at up
    push_cast at up
    rw [f_X10_alikeAt_4, hR, if_neg (by omega)]
    cases e : ms_pw WW S a
    · have fa := (ft a (by omega)).1
      rw [e, if_neg (by simp)] at fa
      simp only [e, Bool.false_eq_true, if_false] at up
      rw [f_X10_alikeAt_18, hR, if_neg (by omega), if_pos (by omega), Int.toNat_natCast, fa, if_pos rfl, f_X10_alikeAt_88, f_X10_alikeAt_100, f_X10_alikeAt_100, sd_wid (by omega) (by omega)]
      have nn := (ms_mx_b (f := fun a => if ms_pw WW S a = true then ms_ct (fun b => ms_pw WW S b && decide (ms_co (WW a) (ms_bg S) d = ms_co (WW b) (ms_bg S) d)) (R + 1) else 0) (b := ((R + 1 : Nat) : Int)) (by omega) a (fun i _ => by
        have := ms_ct_b (p := fun b => ms_pw WW S b && decide (ms_co (WW i) (ms_bg S) d = ms_co (WW b) (ms_bg S) d)) (R + 1)
        split <;> omega)).1
      rw [if_neg (by omega)] at up
      rw [if_pos nn]
      exact up
    · have z := rf_alike_18 r6 hR ft hd (a := a) (by omega) (f_X10_alikeAt_88 (f_X10_alikeAt_4 fu)) (ms_mx (fun a => if ms_pw WW S a = true then ms_ct (fun b => ms_pw WW S b && decide (ms_co (WW a) (ms_bg S) d = ms_co (WW b) (ms_bg S) d)) (R + 1) else 0) a) e (R + 1) 0 4000 (by omega) (by omega)
      have z' : f_X10_alikeAt_18 (f_X10_alikeAt_88 (f_X10_alikeAt_4 fu)) 4000 (d : Int) (ms_mx (fun a => if ms_pw WW S a = true then ms_ct (fun b => ms_pw WW S b && decide (ms_co (WW a) (ms_bg S) d = ms_co (WW b) (ms_bg S) d)) (R + 1) else 0) a) (a : Int) 0 0 M = _ := z
      rw [z', f_X10_alikeAt_88, f_X10_alikeAt_100, f_X10_alikeAt_100, sd_wid (by omega) (by omega)]
      simp only [e, if_true] at up
      by_cases c : ms_mx (fun a => if ms_pw WW S a = true then ms_ct (fun b => ms_pw WW S b && decide (ms_co (WW a) (ms_bg S) d = ms_co (WW b) (ms_bg S) d)) (R + 1) else 0) a < ms_ct (fun b => ms_pw WW S b && decide (ms_co (WW a) (ms_bg S) d = ms_co (WW b) (ms_bg S) d)) (R + 1)
      · rw [if_pos c] at up
        rw [if_neg (by omega)]
        exact up
      · rw [if_neg c] at up
        rw [if_pos (by omega)]
        exact up
