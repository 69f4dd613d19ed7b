/-! seasons of drawn cancellations -/
def ms_dx (x : Int) : Int := (x * 1103515245 + 12345) % 2147483648
theorem ms_dx_b {x : Int} : 0 ≤ ms_dx x ∧ ms_dx x < 2147483648 := by
  unfold ms_dx
  omega
theorem sd_wlid {z : Int} (h1 : -9223372036854775808 ≤ z) (h2 : z < 9223372036854775808) : sd_wl z = z := by
  unfold sd_wl
  exact Int.bmod_eq_of_le (by omega) (by omega)
theorem ms_dx_e {x : Int} (h : 0 ≤ x ∧ x < 2147483648) : Int.tmod (sd_wl (sd_wl (x * 1103515245) + 12345)) 2147483648 = ms_dx x := by
  rw [sd_wlid (z := x * 1103515245) (by omega) (by omega), sd_wlid (by omega) (by omega), ms_tmod (by omega)]
  rfl
theorem cl_draw {M : sd_M} {x : Int} (e : M 58 4 = x) (h : 0 ≤ x ∧ x < 2147483648) : f_X2_draw 58 M = some (ms_dx x / 65536, sd_s M 58 4 (ms_dx x)) := by
  have b := ms_dx_b (x := x)
  unfold f_X2_draw
  rw [e, ms_dx_e h, sd_wid (z := ms_dx x) (by omega) (by omega), sd_s_at, ms_tdiv b.1, sd_wid (by omega) (by omega)]
theorem rf_draw {M : sd_M} {x n : Int} (e : M 331 38 = x) (h : 0 ≤ x ∧ x < 2147483648) (hn : 0 < n ∧ n ≤ 100) : f_X10_draw n M = some (ms_dx x / 65536 % n, sd_s M 331 38 (ms_dx x)) := by
  have b := ms_dx_b (x := x)
  have r := Int.emod_nonneg (ms_dx x / 65536) (show n ≠ 0 by omega)
  have r2 := Int.emod_lt_of_pos (ms_dx x / 65536) hn.1
  unfold f_X10_draw
  rw [if_pos (by omega), e, ms_dx_e h, sd_s_at, ms_tdiv b.1, sd_wlid (z := ms_dx x / 65536) (by omega) (by omega), ms_tmod (by omega), sd_wid (by omega) (by omega)]
def ms_sf (x : Int) (T : Nat → Int) : Int := ms_dx (ms_dx x) / 65536 % T 2
def ms_sc (p x : Int) (T : Nat → Int) : Int × (Nat → Int) := if p ≤ ms_dx x / 65536 % 100 ∨ T 2 ≤ 0 then (ms_dx x, T) else (ms_dx (ms_dx x), if T (71 + (ms_sf x T).toNat) = 1 then ms_ca T (ms_sf x T) else T)
theorem ms_ca_58 {S : Nat → Int} (ok : ms_ok S) {f : Int} (c : (0 ≤ f ∧ f < S 2) ∧ S (71 + f.toNat) = 1) : ms_ca S f 58 = S 58 := by
  have p := ms_po_l ok c
  have o := ms_go_ok ok p.1
  rw [p.2] at o
  unfold ms_ca ms_st
  rw [ms_se_58 9 o 58 (by omega), ms_go_lo (by omega) (by omega)]
theorem ms_sf_b {x : Int} {T : Nat → Int} (h : 0 < T 2) : 0 ≤ ms_sf x T ∧ ms_sf x T < T 2 := ⟨Int.emod_nonneg _ (by omega), Int.emod_lt_of_pos _ h⟩
theorem ms_sc_p {p x : Int} {T : Nat → Int} (h : ms_ok T) : ms_ok (ms_sc p x T).2 ∧ ms_ou T (ms_sc p x T).2 ∧ (ms_sc p x T).2 58 = T 58 ∧ 0 ≤ (ms_sc p x T).1 ∧ (ms_sc p x T).1 < 2147483648 := by
  have b1 := ms_dx_b (x := x)
  have b2 := ms_dx_b (x := ms_dx x)
  unfold ms_sc
  by_cases c : p ≤ ms_dx x / 65536 % 100 ∨ T 2 ≤ 0
  · rw [if_pos c]
    exact ⟨h, ms_ou_rf, rfl, b1⟩
  · rw [if_neg c]
    have f := ms_sf_b (x := x) (T := T) (by omega)
    by_cases d : T (71 + (ms_sf x T).toNat) = 1
    · rw [if_pos d]
      exact ⟨ms_ca_ok h ⟨f, d⟩, ms_ou_ca h ⟨f, d⟩, ms_ca_58 h ⟨f, d⟩, b2⟩
    · rw [if_neg d]
      exact ⟨h, ms_ou_rf, rfl, b2⟩
def ms_sy1 (W : (Nat → Int) → Int → Int) (p : Int) (q : Int × (Nat → Int)) : Int × (Nat → Int) := ((ms_sc p q.1 q.2).1, ms_ps W (ms_sc p q.1 q.2).2)
def ms_si (W : (Nat → Int) → Int → Int) (p : Int) (q : Int × (Nat → Int)) : Nat → Int × (Nat → Int)
  | 0 => q
  | n + 1 => ms_sy1 W p (ms_si W p q n)
theorem ms_si_p {W : (Nat → Int) → Int → Int} {p x : Int} {S : Nat → Int} (h : ms_ok S) (hx : 0 ≤ x ∧ x < 2147483648) : ∀ n, ms_ok (ms_si W p (x, S) n).2 ∧ ms_ou S (ms_si W p (x, S) n).2 ∧ (ms_si W p (x, S) n).2 58 = S 58 + n ∧ 0 ≤ (ms_si W p (x, S) n).1 ∧ (ms_si W p (x, S) n).1 < 2147483648
  | 0 => ⟨h, ms_ou_rf, by simp [ms_si], hx⟩
  | n + 1 => by
    obtain ⟨a1, a2, a3, a4⟩ := ms_si_p (W := W) (p := p) h hx n
    obtain ⟨b1, b2, b3, b4⟩ := ms_sc_p (p := p) (x := (ms_si W p (x, S) n).1) a1
    refine ⟨ms_ps_ok b1, ms_ou_tr a2 (ms_ou_tr b2 (ms_ou_ps b1)), ?_, b4⟩
    rw [ms_si]
    unfold ms_sy1
    simp only []
    rw [ms_ps_58 b1, b3, a3]
    push_cast
    omega
def cl_qs (M N : sd_M) : Prop := (∀ a, a ≠ 58 → ¬ (317 ≤ a ∧ a < 331) → (∀ r, r < 6 → a ≠ 22 + 7 * r) → N a = M a) ∧ ∀ j, j ≠ 4 → N 58 j = M 58 j
theorem cl_qs_q {M N K : sd_M} (h : cl_qs M N) (g : cl_qf N K) : cl_qs M K := ⟨fun a x y z => (g a y z).trans (h.1 a x y z), fun j hj => by rw [g 58 (by omega) (fun r _ => by omega)]; exact h.2 j hj⟩
theorem cl_qs_s {M N : sd_M} {v : Int} (h : cl_qs M N) : cl_qs M (sd_s N 58 4 v) := ⟨fun a x y z => by rw [sd_s_a x]; exact h.1 a x y z, fun j hj => by rw [sd_s_j hj]; exact h.2 j hj⟩
theorem cl_qs_tn {M0 M : sd_M} (h : sd_Iv M0) (q : cl_qs M0 M) {T : Nat → Int} (ou : ms_ou (M0 341) T) : cl_tn M T := cl_tn_c (iv_tn h) (iv_ok h).1.2.2.1.2 (fun a x y => q.1 a (by omega) (by omega) (fun r _ => by omega)) (ms_ou_t ou)
theorem cl_qs_W {M0 M : sd_M} {rl : Option Nat} {W : (Nat → Int) → Int → Int} (hW : cl_W M0 rl W) (q : cl_qs M0 M) : cl_W M rl W := cl_W_c hW (fun a ha hr => q.1 a (by omega) (by omega) hr)
/-- one day of a season, the class -/
theorem cl_sday {M0 M : sd_M} (h : sd_Iv M0) (q : cl_qs M0 M) {x p : Int} {T : Nat → Int} (hx : 0 ≤ x ∧ x < 2147483648) (ex : M 58 4 = x) (hT : ms_ok T) (ou : ms_ou (M0 341) T) (hb : cl_bk M 318 T) : ms_T (f_X9_drawCancelling p M) (fun _ N => cl_qs M0 N ∧ N 58 4 = (ms_sc p x T).1 ∧ cl_bk N 318 (ms_sc p x T).2) := by
  have l := ms_lines hT
  have b1 := ms_dx_b (x := x)
  have e2 : M 59 2 = T 2 := (cl_qs_tn h q ou).1.1
  have k1 : cl_bk (sd_s M 58 4 (ms_dx x)) 318 T := cl_bk_c hT hb (fun _ _ => rfl) (fun a x y => sd_s_a (by omega))
  unfold f_X9_drawCancelling
  rw [cl_draw ex hx, Option.bind_some]
  simp only []
  rw [ms_tmod (by omega), e2]
  unfold ms_sc
  by_cases c : p ≤ ms_dx x / 65536 % 100
  · rw [if_pos c, if_pos (Or.inl c)]
    exact ms_t_r ⟨cl_qs_s q, sd_s_at, k1⟩
  · rw [if_neg c]
    by_cases d : T 2 ≤ 0
    · rw [if_pos d, if_pos (Or.inr d)]
      exact ms_t_r ⟨cl_qs_s q, sd_s_at, k1⟩
    · have b2 := ms_dx_b (x := ms_dx x)
      have f := ms_sf_b (x := x) (T := T) (by omega)
      rw [if_neg d, if_neg (fun z => z.elim c d), cl_draw (M := sd_s M 58 4 (ms_dx x)) sd_s_at b1, Option.bind_some]
      simp only []
      rw [if_pos (by omega), ms_tmod (by omega), show ms_dx (ms_dx x) / 65536 % T 2 = ms_sf x T from rfl]
      have k2 : cl_bk (sd_s (sd_s M 58 4 (ms_dx x)) 58 4 (ms_dx (ms_dx x))) 318 T := cl_bk_c hT hb (fun _ _ => rfl) (fun a x y => by rw [sd_s_a (by omega), sd_s_a (by omega)])
      have q2 := cl_qs_s (v := ms_dx (ms_dx x)) (cl_qs_s (v := ms_dx x) q)
      rw [cl_isOn hT k2.1, Option.bind_some]
      simp only []
      by_cases g : T (71 + (ms_sf x T).toNat) = 1
      · rw [ms_i1 ⟨f, g⟩, if_neg (by omega), if_pos g]
        refine ms_t_b (cl_strike (b := 318) (by omega) hT k2 (cl_qs_tn h q2 ou) ⟨f, g⟩) (fun _ N hN => ms_t_r ⟨cl_qs_q q2 (cl_qf_fr hN.2.2), ?_, hN.2.1⟩)
        simp only []
        rw [hN.2.2 58 (by omega), sd_s_at]
      · rw [ms_i0 (fun z => g z.2), if_pos rfl, if_neg g]
        exact ms_t_r ⟨q2, sd_s_at, k2⟩
theorem cl_sea_108 {M0 : sd_M} (h : sd_Iv M0) {W : (Nat → Int) → Int → Int} (hW : cl_W M0 (cl_ra (M0 58 3) (M0 0 4)) W) {x p : Int} (hx : 0 ≤ x ∧ x < 2147483648) {n : Nat} (hn : n ≤ 30) (kk : Int → Int → Int → Int → Int → Int → Int → sd_M → Option (Int × sd_M)) (v1 w kept sum sea : Int) : ∀ (m i fu : Nat) (M : sd_M), i + m = n → m < fu → cl_qs M0 M → M 58 4 = (ms_si W p (x, M0 341) i).1 → cl_bk M 318 (ms_si W p (x, M0 341) i).2 → ∃ N, cl_qs M0 N ∧ N 58 4 = (ms_si W p (x, M0 341) n).1 ∧ cl_bk N 318 (ms_si W p (x, M0 341) n).2 ∧ f_X9_seasons_108 kk fu v1 (n : Int) p w kept sum sea (i : Int) M = kk v1 (n : Int) p w kept sum sea N := by
  have ok := iv_ok h
  have sl := iv_sl h
  intro m
  induction m with
  | zero =>
    intro i fu M hi hf q e b
    obtain ⟨fu, rfl⟩ : ∃ g, fu = g + 1 := ⟨fu - 1, by omega⟩
    rw [show i = n by omega] at e b
    refine ⟨M, q, e, b, ?_⟩
    rw [f_X9_seasons_108, if_pos (by omega)]
  | succ m ih =>
    intro i fu M hi hf q e b
    obtain ⟨fu, rfl⟩ : ∃ g, fu = g + 1 := ⟨fu - 1, by omega⟩
    obtain ⟨a1, a2, a3, a4⟩ := ms_si_p (W := W) (p := p) ok hx i
    obtain ⟨c1, c2, c3, c4⟩ := ms_sc_p (p := p) (x := (ms_si W p (x, M0 341) i).1) a1
    obtain ⟨_, N1, e1, q1, x1, b1⟩ := cl_sday (p := p) h q a4 e a1 a2 b
    have ou := ms_ou_tr a2 c2
    obtain ⟨_, N2, e2, _, b2, f2⟩ := cl_pass (M := N1) (b := 318) (by omega) c1 b1 (cl_qs_tn h q1 ou) (by rw [c3, a3]; have := sl.2.1; omega) (cl_qs_W hW q1)
    have q2 : cl_qs M0 N2 := cl_qs_q q1 (cl_qf_fd f2)
    have x2 : N2 58 4 = (ms_si W p (x, M0 341) (i + 1)).1 := by
      rw [f2 58 (by omega) (fun r _ => by omega) (by omega), x1]
      rfl
    obtain ⟨K, k1, k2, k3, k4⟩ := ih (i + 1) fu N2 (by omega) (by omega) q2 x2 b2
    refine ⟨K, k1, k2, k3, ?_⟩
    push_cast at k4
    rw [f_X9_seasons_108, if_neg (by omega), e1, Option.bind_some]
    simp only []
    rw [cl_rif, Option.bind_some]
    simp only []
    rw [q1.2 3 (by omega), q1.1 0 (by omega) (by omega) (fun r _ => by omega), e2, Option.bind_some]
    simp only []
    rw [sd_wid (by omega) (by omega)]
    exact k4
def ms_sz2 (w : Int) (T : Nat → Int) : Int := if w = 0 then ms_sh T else T 60
def ms_sv (W : (Nat → Int) → Int → Int) (p : Int) (n : Nat) (S : Nat → Int) (w : Int) : Nat → Int → Int → Int
  | 0, _, a => a
  | k + 1, x, a => ms_sv W p n S w k (ms_si W p (x, S) n).1 (a + ms_sz2 w (ms_si W p (x, S) n).2)
theorem ms_sz2_b {T : Nat → Int} (h : ms_ok T) (w : Int) : 0 ≤ ms_sz2 w T ∧ ms_sz2 w T ≤ 999 := by
  have l := ms_lines h
  have p := ms_pl_le h
  have o := h.2.2.1
  unfold ms_sz2 ms_sh
  split
  · split <;> omega
  · omega
theorem cl_sea_85 {M0 : sd_M} (h : sd_Iv M0) {W : (Nat → Int) → Int → Int} (hW : cl_W M0 (cl_ra (M0 58 3) (M0 0 4)) W) {p w : Int} {n mm : Nat} (hn : n ≤ 30) (hm : mm ≤ 10) : ∀ (m k fu : Nat) (x a : Int) (M : sd_M), k + m = mm → m < fu → (0 ≤ x ∧ x < 2147483648) → (0 ≤ a ∧ a ≤ 999 * k) → cl_qs M0 M → M 58 4 = x → ms_T (f_X9_seasons_85 f_X9_seasons_181 fu (mm : Int) (n : Int) p w (M0 58 4) a (k : Int) M) (fun v N => v = ms_sv W p n (M0 341) w m x a ∧ cl_qf M0 N) := by
  have ok := iv_ok h
  intro m
  induction m with
  | zero =>
    intro k fu x a M hk hf hx ha q e
    obtain ⟨fu, rfl⟩ : ∃ g, fu = g + 1 := ⟨fu - 1, by omega⟩
    rw [f_X9_seasons_85, if_pos (by omega), f_X9_seasons_181, ms_sv]
    refine ms_t_r ⟨rfl, fun b x y => ?_⟩
    by_cases c : b = 58
    · rw [c]
      funext j
      by_cases d : j = 4
      · rw [d, sd_s_at]
      · rw [sd_s_j d, q.2 j d]
    · rw [sd_s_a c, q.1 b c x y]
  | succ m ih =>
    intro k fu x a M hk hf hx ha q e
    obtain ⟨fu, rfl⟩ : ∃ g, fu = g + 1 := ⟨fu - 1, by omega⟩
    have bk : cl_bk M 66 (M0 341) := cl_bk_c ok (iv_bk h) (fun _ _ => rfl) (fun a x y => q.1 a (by omega) (by omega) (fun r _ => by omega))
    obtain ⟨N1, e1, b1, f1⟩ := cl_copy_k (M := M) (b := 318) (o := 66) (by omega) ok bk
    obtain ⟨N2, q2, x2, b2, e2⟩ := cl_sea_108 h hW (p := p) hx hn (f_X9_seasons_148 (f_X9_seasons_85 f_X9_seasons_181 fu) f_X9_seasons_181) (mm : Int) w (M0 58 4) a (k : Int) n 0 4000 N1 (by omega) (by omega) (cl_qs_q q (cl_qf_fr f1)) (by rw [f1 58 (by omega)]; exact e) b1
    have e2' : f_X9_seasons_108 (f_X9_seasons_148 (f_X9_seasons_85 f_X9_seasons_181 fu) f_X9_seasons_181) 4000 (mm : Int) (n : Int) p w (M0 58 4) a (k : Int) 0 N1 = _ := e2
    obtain ⟨a1, a2, a3, a4⟩ := ms_si_p (W := W) (p := p) ok hx n
    have zb := ms_sz2_b a1 w
    have up := ih (k + 1) fu (ms_si W p (x, M0 341) n).1 (a + ms_sz2 w (ms_si W p (x, M0 341) n).2) N2 (by omega) (by omega) a4 (by push_cast; omega) q2 x2
    push_cast at up
    rw [f_X9_seasons_85, if_neg (by omega), e1, Option.bind_some]
    simp only []
    rw [e2', f_X9_seasons_148, ms_sv, f_X9_seasons_172, sd_wid (z := (k : Int) + 1) (by omega) (by omega)]
    by_cases w0 : w = 0
    · have z : ms_sz2 w (ms_si W p (x, M0 341) n).2 = ms_sh (ms_si W p (x, M0 341) n).2 := if_pos w0
      rw [z] at up zb
      rw [if_pos w0, cl_lack a1 b2.1.1.1 b2.2.1, Option.bind_some]
      simp only [f_X9_seasons_172]
      rw [sd_wid (z := (k : Int) + 1) (by omega) (by omega), sd_wid (by omega) (by omega), z]
      exact up
    · have z : ms_sz2 w (ms_si W p (x, M0 341) n).2 = (ms_si W p (x, M0 341) n).2 60 := if_neg w0
      rw [z] at up zb
      rw [if_neg w0, b2.1.1.2.2.1, sd_wid (by omega) (by omega), z]
      exact up
/-! the reference's seasons -/
def rf_x (M N : sd_M) : Prop := (∀ a, a ≠ 331 → (a < 339 ∨ 345 ≤ a) → N a = M a) ∧ ∀ j, j ≠ 18 → j ≠ 38 → N 331 j = M 331 j
theorem rf_x_rf {M : sd_M} : rf_x M M := ⟨fun _ _ _ => rfl, fun _ _ _ => rfl⟩
theorem rf_x_tr {M N K : sd_M} (h : rf_x M N) (g : rf_x N K) : rf_x M K := ⟨fun a x y => (g.1 a x y).trans (h.1 a x y), fun j x y => (g.2 j x y).trans (h.2 j x y)⟩
theorem rf_x_d {M N : sd_M} (h : rf_d M N) : rf_x M N := ⟨fun a x y => h.1 a x (by omega) (by omega) (by omega) (by omega) (by omega) (by omega), fun j x _ => h.2 j x⟩
theorem rf_x_s {M : sd_M} {v : Int} : rf_x M (sd_s M 331 38 v) := ⟨fun a x _ => sd_s_a x, fun j _ y => sd_s_j y⟩
theorem rf_W_x {M N : sd_M} {z : Int} {W : (Nat → Int) → Int → Int} (h : rf_W M z W) (q : rf_x M N) : rf_W N z W := rf_W_c h (q.1 333 (by omega) (by omega)) (q.1 335 (by omega) (by omega)) (q.1 336 (by omega) (by omega))
theorem rf_sea_116 {M0 M : sd_M} {T : Nat → Int} {W : (Nat → Int) → Int → Int} (hW : rf_W M0 (M0 331 21) W) (y : rf_x M0 M) (e : M 341 = T) (hT : ms_ok T) (hd : 0 ≤ T 58 ∧ T 58 < 100000) : ∃ v N, f_X10_passes M = some (v, N) ∧ N 341 = ms_ps W T ∧ N 331 38 = M 331 38 ∧ rf_x M0 N := by
  subst e
  have w2 : rf_W M (M 331 21) W := by
    rw [y.2 21 (by omega) (by omega)]
    exact rf_W_x hW y
  obtain ⟨v, N, e1, _, n1, n2⟩ := rf_passes hT hd w2
  exact ⟨v, N, e1, n1, n2.2 38 (by omega), rf_x_tr y (rf_x_d n2)⟩
theorem rf_sea_87 {M0 : sd_M} {S : Nat → Int} (ok : ms_ok S) (hd : 0 ≤ S 58 ∧ S 58 ≤ 999) {W : (Nat → Int) → Int → Int} (hW : rf_W M0 (M0 331 21) W) {x p : Int} (hx : 0 ≤ x ∧ x < 2147483648) {n : Nat} (hn : n ≤ 30) (kk : Int → Int → Int → Int → Int → Int → Int → sd_M → Option (Int × sd_M)) (v1 w a0 a1 sea : Int) : ∀ (m i fu : Nat) (M : sd_M), i + m = n → m < fu → rf_x M0 M → M 331 38 = (ms_si W p (x, S) i).1 → M 341 = (ms_si W p (x, S) i).2 → ∃ N, rf_x M0 N ∧ N 331 38 = (ms_si W p (x, S) n).1 ∧ N 341 = (ms_si W p (x, S) n).2 ∧ f_X10_seasons_87 kk fu v1 (n : Int) p w a0 a1 sea (i : Int) M = kk v1 (n : Int) p w a0 a1 sea N := by
  intro m
  induction m with
  | zero =>
    intro i fu M hi hf y e b
    obtain ⟨fu, rfl⟩ : ∃ g, fu = g + 1 := ⟨fu - 1, by omega⟩
    rw [show i = n by omega] at e b
    refine ⟨M, y, e, b, ?_⟩
    rw [f_X10_seasons_87, if_pos (by omega)]
  | succ m ih =>
    intro i fu M hi hf y e b
    obtain ⟨fu, rfl⟩ : ∃ g, fu = g + 1 := ⟨fu - 1, by omega⟩
    obtain ⟨c1, c2, c3, c4⟩ := ms_si_p (W := W) (p := p) ok hx i
    obtain ⟨d1, d2, d3, d4⟩ := ms_sc_p (p := p) (x := (ms_si W p (x, S) i).1) c1
    have l := ms_lines c1
    have bx := ms_dx_b (x := (ms_si W p (x, S) i).1)
    have r := Int.emod_nonneg (ms_dx (ms_si W p (x, S) i).1 / 65536) (show (100 : Int) ≠ 0 by omega)
    have go : ∀ K : sd_M, rf_x M0 K → K 341 = (ms_sc p (ms_si W p (x, S) i).1 (ms_si W p (x, S) i).2).2 → K 331 38 = (ms_sc p (ms_si W p (x, S) i).1 (ms_si W p (x, S) i).2).1 → ∃ N, rf_x M0 N ∧ N 331 38 = (ms_si W p (x, S) n).1 ∧ N 341 = (ms_si W p (x, S) n).2 ∧ f_X10_seasons_116 (f_X10_seasons_87 kk fu) kk v1 (n : Int) p w a0 a1 sea (i : Int) K = kk v1 (n : Int) p w a0 a1 sea N := fun K k1 k2 k3 => by
      obtain ⟨v, N, e1, n1, n2, n3⟩ := rf_sea_116 hW k1 k2 d1 (by rw [d3, c3]; omega)
      obtain ⟨Z, z1, z2, z3, z4⟩ := ih (i + 1) fu N (by omega) (by omega) n3 (by rw [n2, k3]; rfl) (by rw [n1]; rfl)
      refine ⟨Z, z1, z2, z3, ?_⟩
      push_cast at z4
      rw [f_X10_seasons_116, e1, Option.bind_some, sd_wid (by omega) (by omega)]
      exact z4
    have y1 : rf_x M0 (sd_s M 331 38 (ms_dx (ms_si W p (x, S) i).1)) := rf_x_tr y rf_x_s
    have m41 : sd_s M 331 38 (ms_dx (ms_si W p (x, S) i).1) 341 = (ms_si W p (x, S) i).2 := by rw [sd_s_a (by omega), b]
    rw [f_X10_seasons_87, if_neg (by omega), rf_draw e c4 (by omega), Option.bind_some]
    simp only []
    rw [m41]
    by_cases g : p ≤ ms_dx (ms_si W p (x, S) i).1 / 65536 % 100
    · rw [if_pos g]
      have z : ms_sc p (ms_si W p (x, S) i).1 (ms_si W p (x, S) i).2 = (ms_dx (ms_si W p (x, S) i).1, (ms_si W p (x, S) i).2) := if_pos (Or.inl g)
      exact go _ y1 (by rw [z]; exact m41) (by rw [z]; exact sd_s_at)
    · rw [if_neg g]
      by_cases g2 : (ms_si W p (x, S) i).2 2 ≤ 0
      · rw [if_pos g2]
        have z : ms_sc p (ms_si W p (x, S) i).1 (ms_si W p (x, S) i).2 = (ms_dx (ms_si W p (x, S) i).1, (ms_si W p (x, S) i).2) := if_pos (Or.inr g2)
        exact go _ y1 (by rw [z]; exact m41) (by rw [z]; exact sd_s_at)
      · rw [if_neg g2]
        have z : ms_sc p (ms_si W p (x, S) i).1 (ms_si W p (x, S) i).2 = (ms_dx (ms_dx (ms_si W p (x, S) i).1), if (ms_si W p (x, S) i).2 (71 + (ms_sf (ms_si W p (x, S) i).1 (ms_si W p (x, S) i).2).toNat) = 1 then ms_ca (ms_si W p (x, S) i).2 (ms_sf (ms_si W p (x, S) i).1 (ms_si W p (x, S) i).2) else (ms_si W p (x, S) i).2) := if_neg (fun q => q.elim g g2)
        have f := ms_sf_b (x := (ms_si W p (x, S) i).1) (T := (ms_si W p (x, S) i).2) (by omega)
        unfold f_X10_changesOne
        rw [m41, rf_draw (M := sd_s M 331 38 (ms_dx (ms_si W p (x, S) i).1)) (n := (ms_si W p (x, S) i).2 2) sd_s_at bx (by omega), Option.bind_some]
        simp only []
        rw [show ms_dx (ms_dx (ms_si W p (x, S) i).1) / 65536 % (ms_si W p (x, S) i).2 2 = ms_sf (ms_si W p (x, S) i).1 (ms_si W p (x, S) i).2 from rfl]
        have y2 : rf_x M0 (sd_s (sd_s M 331 38 (ms_dx (ms_si W p (x, S) i).1)) 331 38 (ms_dx (ms_dx (ms_si W p (x, S) i).1))) := rf_x_tr y1 rf_x_s
        have n41 : sd_s (sd_s M 331 38 (ms_dx (ms_si W p (x, S) i).1)) 331 38 (ms_dx (ms_dx (ms_si W p (x, S) i).1)) 341 = (ms_si W p (x, S) i).2 := by rw [sd_s_a (by omega), m41]
        rw [rf_isLine (by rw [n41]; exact c1), n41, Option.bind_some]
        simp only []
        by_cases g3 : (ms_si W p (x, S) i).2 (71 + (ms_sf (ms_si W p (x, S) i).1 (ms_si W p (x, S) i).2).toNat) = 1
        · rw [if_pos g3] at z
          obtain ⟨v, K, k1, _, k2, k3⟩ := rf_ca (M := sd_s (sd_s M 331 38 (ms_dx (ms_si W p (x, S) i).1)) 331 38 (ms_dx (ms_dx (ms_si W p (x, S) i).1))) n41 c1 ⟨f, g3⟩
          rw [ms_i1 ⟨f, g3⟩, if_neg (by omega), k1, Option.bind_some, Option.bind_some]
          exact go K (rf_x_tr y2 (rf_x_d k3)) (by rw [z]; exact k2) (by rw [z, k3.2 38 (by omega)]; exact sd_s_at)
        · rw [if_neg g3] at z
          rw [ms_i0 (fun q => g3 q.2), if_pos rfl, Option.bind_some]
          exact go _ y2 (by rw [z]; exact n41) (by rw [z]; simp only []; exact sd_s_at)
theorem rf_sea_78 {M0 : sd_M} {S : Nat → Int} (ok : ms_ok S) (hd : 0 ≤ S 58 ∧ S 58 ≤ 999) (kp : rf_kp M0 S) {W : (Nat → Int) → Int → Int} (hW : rf_W M0 (M0 331 21) W) {p w : Int} {n mm : Nat} (hn : n ≤ 30) (hm : mm ≤ 10) : ∀ (m k fu : Nat) (x a0 a1 : Int) (M : sd_M), k + m = mm → m < fu → (0 ≤ x ∧ x < 2147483648) → (0 ≤ a0 ∧ a0 ≤ 999 * k) → (0 ≤ a1 ∧ a1 ≤ 999 * k) → rf_x M0 M → M 331 38 = x → M 341 = S → ms_T (f_X10_seasons_78 f_X10_seasons_158 fu (mm : Int) (n : Int) p w a0 a1 (k : Int) M) (fun v N => v = (if w = 0 then ms_sv W p n S 0 m x a0 else ms_sv W p n S 1 m x a1) ∧ N 341 = S ∧ rf_x M0 N) := by
  intro m
  induction m with
  | zero =>
    intro k fu x a0 a1 M hk hf hx ha hb y e b
    obtain ⟨fu, rfl⟩ : ∃ g, fu = g + 1 := ⟨fu - 1, by omega⟩
    rw [f_X10_seasons_78, if_pos (by omega), f_X10_seasons_158, ms_sv, ms_sv]
    by_cases w0 : w = 0
    · rw [if_pos w0, if_pos w0]
      exact ms_t_r ⟨rfl, b, y⟩
    · rw [if_neg w0, if_neg w0]
      exact ms_t_r ⟨rfl, b, y⟩
  | succ m ih =>
    intro k fu x a0 a1 M hk hf hx ha hb y e b
    obtain ⟨fu, rfl⟩ : ∃ g, fu = g + 1 := ⟨fu - 1, by omega⟩
    obtain ⟨N, n1, n2, n3, n4⟩ := rf_sea_87 ok hd hW (p := p) hx hn (f_X10_seasons_127 (f_X10_seasons_78 f_X10_seasons_158 fu) f_X10_seasons_158) (mm : Int) w a0 a1 (k : Int) n 0 4000 M (by omega) (by omega) y (by rw [e]; rfl) (by rw [b]; rfl)
    have n4' : f_X10_seasons_87 (f_X10_seasons_127 (f_X10_seasons_78 f_X10_seasons_158 fu) f_X10_seasons_158) 4000 (mm : Int) (n : Int) p w a0 a1 (k : Int) 0 M = _ := n4
    obtain ⟨c1, c2, c3, c4⟩ := ms_si_p (W := W) (p := p) ok hx n
    have z0 := ms_sz2_b c1 0
    have z1 := ms_sz2_b c1 1
    have y0 : ms_sz2 0 (ms_si W p (x, S) n).2 = ms_sh (ms_si W p (x, S) n).2 := if_pos rfl
    have y1 : ms_sz2 1 (ms_si W p (x, S) n).2 = (ms_si W p (x, S) n).2 60 := if_neg (by omega)
    rw [f_X10_seasons_78, if_neg (by omega), n4', f_X10_seasons_127, rf_shortNow (by rw [n3]; exact c1), Option.bind_some, n3]
    simp only []
    have kpN : rf_kp N S := fun j hj => by
      rw [n1.1 346 (by omega) (by omega)]
      exact kp j hj
    refine ms_t_b (rf_laysBack (M := N) (S := S) kpN (by rw [n3]; exact c2)) (fun _ K hK => ?_)
    simp only []
    rw [n3, ← y0, ← y1, sd_wid (z := a0 + ms_sz2 0 (ms_si W p (x, S) n).2) (by omega) (by omega), sd_wid (z := a1 + ms_sz2 1 (ms_si W p (x, S) n).2) (by omega) (by omega), sd_wid (z := (k : Int) + 1) (by omega) (by omega), ms_sv, ms_sv]
    have up := ih (k + 1) fu (ms_si W p (x, S) n).1 (a0 + ms_sz2 0 (ms_si W p (x, S) n).2) (a1 + ms_sz2 1 (ms_si W p (x, S) n).2) K (by omega) (by omega) c4 (by push_cast; omega) (by push_cast; omega) (rf_x_tr n1 (rf_x_d (rf_d_41 hK.2))) (by rw [hK.2 331 (by omega), n2]) hK.1
    push_cast at up
    exact up
theorem sp_seasons : sd_S4 sd_Iv f_X9_seasons f_X10_seasons := iv_q4 (fun M h m n p w hm hn hp hw => by
  have ok := iv_ok h
  have sl := iv_sl h
  have sp := iv_sp h
  have zx := iv_zx h
  have xb := h.2.2.2.2.2.2.2
  obtain ⟨W, w1, w2⟩ := iv_F2 h
  have c48 : ∀ s0, (M 341 0 ≠ 1 ∨ s0 = 0) → f_X9_seasons_48 m n p w s0 M = some (-1, M) := fun s0 q => by
    unfold f_X9_seasons_48
    by_cases g : M 59 0 = 0
    · rw [if_pos g]
    · rw [if_neg g, if_pos (q.resolve_left (by omega))]
  by_cases d : (1 ≤ m ∧ m ≤ 10) ∧ (1 ≤ n ∧ n ≤ 30) ∧ (0 ≤ p ∧ p ≤ 100) ∧ (0 ≤ w ∧ w ≤ 1)
  · obtain ⟨d1, d2, d3, d4⟩ := d
    have x1 : f_X9_seasons m n p w M = f_X9_seasons_48 m n p w 1 M := by
      unfold f_X9_seasons
      rw [if_neg (by omega), if_neg (by omega), if_neg (by omega), if_neg (by omega), if_neg (by omega), if_neg (by omega), if_neg (by omega), if_neg (by omega)]
    by_cases c : M 341 0 = 1
    · obtain ⟨m, rfl⟩ : ∃ k : Nat, m = k := ⟨m.toNat, by omega⟩
      obtain ⟨n, rfl⟩ : ∃ k : Nat, n = k := ⟨n.toNat, by omega⟩
      refine ⟨ms_sv W p n (M 341) w m (M 331 22) 0, ?_, fun N hN q => ?_⟩
      · rw [x1, f_X9_seasons_48, if_neg (by omega), if_neg (by omega)]
        exact cl_sea_85 h w1 (by omega) (by omega) m 0 4000 (M 331 22) 0 M (by omega) (by omega) xb (by omega) ⟨fun _ _ _ _ => rfl, fun _ _ => rfl⟩ zx.2
      · have e : N 341 = M 341 := cl_qf_hi q (by omega)
        have e31 : N 331 = M 331 := cl_qf_hi q (by omega)
        unfold f_X10_seasons
        rw [rf_sl1 (by rw [e]; exact c), Option.bind_some]
        simp only []
        rw [if_neg (by omega), rf_in1 d1, Option.bind_some]
        simp only []
        rw [if_neg (by omega), rf_in1 d2, Option.bind_some]
        simp only []
        rw [if_neg (by omega), rf_in1 d3, Option.bind_some]
        simp only []
        rw [if_neg (by omega), rf_in1 d4, Option.bind_some]
        simp only []
        rw [if_neg (by omega), e31]
        have r41 : sd_s N 331 38 (M 331 22) 341 = M 341 := by rw [sd_s_a (by omega), e]
        refine ms_t_b (rf_keeps (M := sd_s N 331 38 (M 331 22))) (fun _ K hK => ?_)
        rw [r41] at hK
        simp only []
        have eK : K 341 = M 341 := by rw [hK.1 341 (by omega), r41]
        have k38 : K 331 38 = M 331 22 := by rw [hK.1 331 (by omega), sd_s_at]
        have hWK : rf_W K (K 331 21) W := by
          rw [hK.1 331 (by omega), sd_s_j (by omega), e31]
          exact rf_W_c w2 (by rw [hK.1 333 (by omega), sd_s_a (by omega), cl_qf_hi q (by omega)]) (by rw [hK.1 335 (by omega), sd_s_a (by omega), cl_qf_hi q (by omega)]) (by rw [hK.1 336 (by omega), sd_s_a (by omega), cl_qf_hi q (by omega)])
        refine ms_t_w (rf_sea_78 (M0 := K) ok sl.2.1 hK.2 hWK (p := p) (w := w) (by omega) (by omega) m 0 4000 (M 331 22) 0 0 K (by omega) (by omega) xb (by omega) (by omega) rf_x_rf k38 eK) (fun v L hL => ⟨?_, fun a ha => ?_, fun j hj => ?_⟩)
        · rw [hL.1]
          by_cases w0 : w = 0
          · rw [if_pos w0, w0]
          · rw [if_neg w0, show w = 1 by omega]
        · have := iv_cx ha
          by_cases z : a = 341
          · rw [z, hL.2.1, e]
          · rw [hL.2.2.1 a (by omega) (by omega), hK.1 a (by omega), sd_s_a (by omega)]
        · rw [hL.2.2.2 j (by omega) (by omega), hK.1 331 (by omega), sd_s_j (by omega)]
    · refine ⟨-1, ?_, fun N hN q => ?_⟩
      · rw [x1, c48 1 (Or.inl c)]
        exact ms_t_r ⟨rfl, cl_qf_rf⟩
      · unfold f_X10_seasons
        rw [rf_sl0 (by rw [cl_qf_hi q (show 331 ≤ 341 by omega)]; exact c), Option.bind_some]
        exact ms_t_r ⟨rfl, rf_q_rf⟩
  · refine ⟨-1, ?_, fun N hN q => ?_⟩
    · have x0 : f_X9_seasons m n p w M = some (-1, M) := by
        unfold f_X9_seasons f_X9_seasons_47
        rw [c48 0 (Or.inr rfl)]
        by_cases g1 : m < 1
        · rw [if_pos g1]
        rw [if_neg g1]
        by_cases g2 : 10 < m
        · rw [if_pos g2]
        rw [if_neg g2]
        by_cases g3 : n < 1
        · rw [if_pos g3]
        rw [if_neg g3]
        by_cases g4 : 30 < n
        · rw [if_pos g4]
        rw [if_neg g4]
        by_cases g5 : p < 0
        · rw [if_pos g5]
        rw [if_neg g5]
        by_cases g6 : 100 < p
        · rw [if_pos g6]
        rw [if_neg g6]
        by_cases g7 : w < 0
        · rw [if_pos g7]
        rw [if_neg g7]
        by_cases g8 : 1 < w
        · rw [if_pos g8]
        exact absurd ⟨by omega, by omega, by omega, by omega⟩ d
      rw [x0]
      exact ms_t_r ⟨rfl, cl_qf_rf⟩
    · unfold f_X10_seasons
      rw [rf_isSlip, Option.bind_some]
      simp only []
      by_cases c : N 341 0 = 1
      · rw [ms_i1 c, if_neg (by omega), rf_in, Option.bind_some]
        simp only []
        by_cases d1 : 1 ≤ m ∧ m ≤ 10
        · rw [ms_i1 d1, if_neg (by omega), rf_in, Option.bind_some]
          simp only []
          by_cases d2 : 1 ≤ n ∧ n ≤ 30
          · rw [ms_i1 d2, if_neg (by omega), rf_in, Option.bind_some]
            simp only []
            by_cases d3 : 0 ≤ p ∧ p ≤ 100
            · rw [ms_i1 d3, if_neg (by omega), rf_in, Option.bind_some]
              simp only []
              rw [ms_i0 (fun d4 => d ⟨d1, d2, d3, d4⟩), if_pos rfl]
              exact ms_t_r ⟨rfl, rf_q_rf⟩
            · rw [ms_i0 d3, if_pos rfl]
              exact ms_t_r ⟨rfl, rf_q_rf⟩
          · rw [ms_i0 d2, if_pos rfl]
            exact ms_t_r ⟨rfl, rf_q_rf⟩
        · rw [ms_i0 d1, if_pos rfl]
          exact ms_t_r ⟨rfl, rf_q_rf⟩
      · rw [ms_i0 c, if_pos rfl]
        exact ms_t_r ⟨rfl, rf_q_rf⟩)
