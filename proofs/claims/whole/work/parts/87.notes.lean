/-! notes: whether they are so -/
def ms_as2 (S : Nat → Int) (n f : Int) : Nat → Nat → Bool
  | 0, _ => true
  | m + 1, k => if S (107 + 2 * k) = n then (if S (108 + 2 * k) = f then ms_as2 S n f m (k + 1) else false) else ms_as2 S n f m (k + 1)
def ms_an (S : Nat → Int) (n f : Int) : Bool := ms_as2 S n f (S 127).toNat 0
theorem ms_as2_c {S T : Nat → Int} {n f : Int} (e : ∀ i, 107 ≤ i → T i = S i) : ∀ (m k : Nat), ms_as2 T n f m k = ms_as2 S n f m k
  | 0, _ => rfl
  | m + 1, k => by rw [ms_as2, ms_as2, e (107 + 2 * k) (by omega), e (108 + 2 * k) (by omega), ms_as2_c e m (k + 1)]
theorem ms_an_c {S T : Nat → Int} {n f : Int} (e : ∀ i, 107 ≤ i → T i = S i) : ms_an T n f = ms_an S n f := by
  unfold ms_an
  rw [e 127 (by omega), ms_as2_c e]
theorem ms_as2_t {S : Nat → Int} {n f : Int} : ∀ (m k : Nat), (∀ j, k ≤ j → j < k + m → S (107 + 2 * j) ≠ n) → ms_as2 S n f m k = true
  | 0, _, _ => rfl
  | m + 1, k, h => by rw [ms_as2, if_neg (h k (by omega) (by omega)), ms_as2_t m (k + 1) (fun j x y => h j (by omega) (by omega))]
theorem cl_allow_l {M : sd_M} {S : Nat → Int} (no : ms_no S) (nt : cl_nt M 74 S) (n f : Int) : ∀ (m k fu : Nat), (k : Int) + m = S 127 → m < fu → f_X3_allow_2 74 fu n f (k : Int) M = some (if ms_as2 S n f m k = true then 1 else 0, M) := by
  have b := no.1
  intro m
  induction m with
  | zero =>
    intro k fu hk hf
    obtain ⟨fu, rfl⟩ : ∃ g, fu = g + 1 := ⟨fu - 1, by omega⟩
    rw [f_X3_allow_2, nt.1, if_pos (by omega), ms_as2, if_pos rfl]
  | succ m ih =>
    intro k fu hk hf
    obtain ⟨fu, rfl⟩ : ∃ g, fu = g + 1 := ⟨fu - 1, by omega⟩
    have up := ih (k + 1) fu (by omega) (by omega)
    push_cast at up
    have g := nt.2 k (by omega)
    rw [f_X3_allow_2, nt.1, if_neg (by omega), if_pos (show 0 ≤ (k : Int) ∧ (k : Int) < 10 by omega), if_pos (show 0 ≤ (k : Int) ∧ (k : Int) < 10 by omega), Int.toNat_natCast, g.1, g.2, f_X3_allow_32, sd_wid (by omega) (by omega), ms_as2]
    by_cases c : S (107 + 2 * k) = n
    · rw [if_pos c, if_pos c]
      by_cases d : S (108 + 2 * k) = f
      · rw [if_pos d, if_pos d]
        exact up
      · rw [if_neg d, if_neg d, if_neg (by simp)]
    · rw [if_neg c, if_neg c]
      exact up
theorem cl_allow {M : sd_M} {S : Nat → Int} (no : ms_no S) (nt : cl_nt M 74 S) (n f : Int) : f_X3_allow 74 n f M = some (if ms_an S n f = true then 1 else 0, M) := by
  have b := no.1
  exact cl_allow_l no nt n f (S 127).toNat 0 4000 (by omega) (by omega)
theorem rf_notes_l {M : sd_M} (b : 0 ≤ M 341 127 ∧ M 341 127 ≤ 10) (n f : Int) : ∀ (m k fu : Nat), (k : Int) + m = M 341 127 → m < fu → f_X10_areNotesSo_2 fu n f (2 * (k : Int)) M = some (if ms_as2 (M 341) n f m k = true then 1 else 0, M) := by
  intro m
  induction m with
  | zero =>
    intro k fu hk hf
    obtain ⟨fu, rfl⟩ : ∃ g, fu = g + 1 := ⟨fu - 1, by omega⟩
    rw [f_X10_areNotesSo_2, sd_wid (by omega) (by omega), if_pos (by omega), ms_as2, if_pos rfl]
  | succ m ih =>
    intro k fu hk hf
    obtain ⟨fu, rfl⟩ : ∃ g, fu = g + 1 := ⟨fu - 1, by omega⟩
    have up := ih (k + 1) fu (by omega) (by omega)
    push_cast at up
    rw [f_X10_areNotesSo_2, sd_wid (z := 2 * M 341 127) (by omega) (by omega), if_neg (by omega), sd_wid (z := 107 + 2 * (k : Int)) (by omega) (by omega), if_pos (by omega), sd_wid (z := 107 + 2 * (k : Int) + 1) (by omega) (by omega), if_pos (show 0 ≤ 107 + 2 * (k : Int) + 1 ∧ 107 + 2 * (k : Int) + 1 < 128 by omega), f_X10_areNotesSo_45, sd_wid (z := 2 * (k : Int) + 2) (by omega) (by omega), show (107 + 2 * (k : Int)).toNat = 107 + 2 * k by omega, show (107 + 2 * (k : Int) + 1).toNat = 108 + 2 * k by omega, ms_as2, show 2 * (k : Int) + 2 = 2 * ((k : Int) + 1) by omega]
    by_cases c : M 341 (107 + 2 * k) = n
    · rw [if_pos c, if_pos c]
      by_cases d : M 341 (108 + 2 * k) = f
      · rw [if_pos d.symm, if_pos d]
        exact up
      · rw [if_neg (fun x => d x.symm), if_neg d, if_neg (by simp)]
    · rw [if_neg c, if_neg c]
      exact up
theorem rf_notes {M : sd_M} (b : 0 ≤ M 341 127 ∧ M 341 127 ≤ 10) (n f : Int) : f_X10_areNotesSo n f M = some (if ms_an (M 341) n f = true then 1 else 0, M) := rf_notes_l b n f (M 341 127).toNat 0 4000 (by omega) (by omega)
def ms_ll (S : Nat → Int) : Nat → Nat → Int → Int
  | 0, _, x => x
  | m + 1, k, x => ms_ll S m (k + 1) (if x < S (107 + 2 * k) then S (107 + 2 * k) else x)
theorem ms_ll_p {S : Nat → Int} : ∀ (m k : Nat) (x : Int), (∀ j, k ≤ j → j < k + m → S (107 + 2 * j) ≤ 30) → -1 ≤ x → x ≤ 30 → (-1 ≤ ms_ll S m k x ∧ ms_ll S m k x ≤ 30 ∧ x ≤ ms_ll S m k x) ∧ ∀ j, k ≤ j → j < k + m → S (107 + 2 * j) ≤ ms_ll S m k x
  | 0, k, x, _, a, b => ⟨⟨a, b, Int.le_refl _⟩, fun j y z => by omega⟩
  | m + 1, k, x, h, a, b => by
    have h0 := h k (by omega) (by omega)
    rw [ms_ll]
    have g := ms_ll_p m (k + 1) (if x < S (107 + 2 * k) then S (107 + 2 * k) else x) (fun j y z => h j (by omega) (by omega)) (by split <;> omega) (by split <;> omega)
    obtain ⟨⟨g1, g2, g3⟩, g4⟩ := g
    refine ⟨⟨g1, g2, ?_⟩, fun j y z => ?_⟩
    · split at g3 <;> rename_i c <;> simp only [c, if_true, if_false] <;> omega
    · by_cases e : j = k
      · rw [e]
        split at g3 <;> rename_i c <;> simp only [c, if_true, if_false] <;> omega
      · exact g4 j (by omega) (by omega)
theorem cl_last_l {M : sd_M} {S : Nat → Int} (no : ms_no S) (nt : cl_nt M 74 S) : ∀ (m k fu : Nat) (x : Int), (k : Int) + m = S 127 → m < fu → f_X3_lastDay_4 74 fu x (k : Int) M = some (ms_ll S m k x, M) := by
  have b := no.1
  intro m
  induction m with
  | zero =>
    intro k fu x hk hf
    obtain ⟨fu, rfl⟩ : ∃ g, fu = g + 1 := ⟨fu - 1, by omega⟩
    rw [f_X3_lastDay_4, nt.1, if_pos (by omega), ms_ll]
  | succ m ih =>
    intro k fu x hk hf
    obtain ⟨fu, rfl⟩ : ∃ g, fu = g + 1 := ⟨fu - 1, by omega⟩
    have g := nt.2 k (by omega)
    have up := ih (k + 1) fu (if x < S (107 + 2 * k) then S (107 + 2 * k) else x) (by omega) (by omega)
    push_cast at up
    rw [f_X3_lastDay_4, nt.1, if_neg (by omega), if_pos (by omega), Int.toNat_natCast, g.1, sd_wid (by omega) (by omega), ms_ll]
    exact up
/-- all days from one on -/
def ms_ac (S : Nat → Int) (c : Nat → Int) : Nat → Nat → Bool
  | 0, _ => true
  | m + 1, k => if ms_an S (k : Int) (c k) = true then ms_ac S c m (k + 1) else false
theorem ms_ac_t {S : Nat → Int} {c : Nat → Int} : ∀ (m k : Nat), (∀ j, k ≤ j → ms_an S (j : Int) (c j) = true) → ms_ac S c m k = true
  | 0, _, _ => rfl
  | m + 1, k, h => by rw [ms_ac, if_pos (h k (by omega)), ms_ac_t m (k + 1) (fun j x => h j (by omega))]
theorem ms_ac_s {S T : Nat → Int} {c : Nat → Int} (e : ∀ i, 107 ≤ i → T i = S i) : ∀ (m k : Nat), ms_ac T c m k = ms_ac S c m k
  | 0, _ => rfl
  | m + 1, k => by rw [ms_ac, ms_ac, ms_an_c e, ms_ac_s e m (k + 1)]
/-- whom a rule takes, day by day -/
def ms_co (W : (Nat → Int) → Int → Int) (T : Nat → Int) : Nat → Int := fun j => ms_ch (ms_pn W T j) W
theorem cl_goes_l {M0 : sd_M} (h : sd_Iv M0) {T : Nat → Int} {W : (Nat → Int) → Int → Int} {rl : Option Nat} (hT : ms_ok T) (t0 : T 58 = 0) (tt : ∀ i, (i = 2 ∨ i = 3 ∨ (22 ≤ i ∧ i < 58)) → T i = M0 341 i) (hW : cl_W M0 rl W) {last : Int} (hl : last ≤ 30) (hn : ∀ (j : Nat) (f : Int), last < (j : Int) → ms_an (M0 341) (j : Int) f = true) : ∀ (m k fu : Nat) (M : sd_M), k + m = 31 → m < fu → cl_qf M0 M → cl_bk M 318 (ms_pn W T k) → ms_T (f_X9_goesAsNoted_13 rl fu last (k : Int) M) (fun v N => v = (if ms_ac (M0 341) (ms_co W T) m k = true then 1 else 0) ∧ cl_qf M0 N) := by
  have no := (iv_sl h).2.2
  intro m
  induction m with
  | zero =>
    intro k fu M hk hf q b
    obtain ⟨fu, rfl⟩ : ∃ g, fu = g + 1 := ⟨fu - 1, by omega⟩
    rw [f_X9_goesAsNoted_13, if_pos (by omega), ms_ac, if_pos rfl]
    exact ms_t_r ⟨rfl, q⟩
  | succ m ih =>
    intro k fu M hk hf q b
    obtain ⟨fu, rfl⟩ : ∃ g, fu = g + 1 := ⟨fu - 1, by omega⟩
    rw [f_X9_goesAsNoted_13]
    by_cases c : last < (k : Int)
    · rw [if_pos c, ms_ac_t (m + 1) k (fun j x => hn j _ (by omega)), if_pos rfl]
      exact ms_t_r ⟨rfl, q⟩
    · rw [if_neg c, if_neg (by omega), sd_wid (by omega) (by omega)]
      have p := ms_pn_p (W := W) hT k
      refine ms_t_b (cl_step h q p.1 b (fun i hi => by rw [p.2.2 i (by omega), tt i hi]) (by rw [p.2.1]; omega) hW) (fun v N hN => ?_)
      simp only []
      have nt : cl_nt N 74 (M0 341) := cl_nt_c (iv_nt h) (fun a x y => cl_qf_mi hN.2.2 (by omega))
      rw [cl_allow no nt, Option.bind_some, hN.1]
      simp only []
      have co : ms_co W T k = ms_ch (ms_pn W T k) W := rfl
      rw [ms_ac, co]
      cases e : ms_an (M0 341) (k : Int) (ms_ch (ms_pn W T k) W)
      · simp only [Bool.false_eq_true, if_false, if_true]
        exact ms_t_r ⟨rfl, hN.2.2⟩
      · simp only [if_true]
        rw [if_neg (by omega)]
        have up := ih (k + 1) fu N (by omega) (by omega) hN.2.2 hN.2.1
        push_cast at up
        exact up
theorem cl_goes {M0 M : sd_M} (h : sd_Iv M0) {T : Nat → Int} {W : (Nat → Int) → Int → Int} {rl : Option Nat} (hT : ms_ok T) (t0 : T 58 = 0) (tt : ∀ i, (i = 2 ∨ i = 3 ∨ (22 ≤ i ∧ i < 58)) → T i = M0 341 i) (hW : cl_W M0 rl W) (q : cl_qf M0 M) (b : cl_bk M 318 T) : ms_T (f_X9_goesAsNoted rl M) (fun v N => v = (if ms_ac (M0 341) (ms_co W T) 31 0 = true then 1 else 0) ∧ cl_qf M0 N) := by
  have no := (iv_sl h).2.2
  have b1 := no.1
  have nt : cl_nt M 74 (M0 341) := cl_nt_c (iv_nt h) (fun a x y => cl_qf_mi q (by omega))
  have ll := ms_ll_p (S := M0 341) (M0 341 127).toNat 0 (-1) (fun j _ y => (no.2 j (by omega)).2) (by omega) (by omega)
  have l2 : f_X3_lastDay 74 M = some (ms_ll (M0 341) (M0 341 127).toNat 0 (-1), M) := cl_last_l no nt (M0 341 127).toNat 0 4000 (-1) (by omega) (by omega)
  unfold f_X9_goesAsNoted
  rw [l2, Option.bind_some]
  exact cl_goes_l h hT t0 tt hW ll.1.2.1 (fun j f hj => ms_as2_t _ _ (fun i x y e => by
    have := ll.2 i x (by omega)
    omega)) 31 0 4000 M (by omega) (by omega) q b
/-! the reference: all so from the begin on -/
theorem rf_W_y {M N : sd_M} {z : Int} {W : (Nat → Int) → Int → Int} (h : rf_W M z W) (q : rf_y M N) : rf_W N z W := rf_W_c h (q.1 333 (by omega) (by omega) (by omega)) (q.1 335 (by omega) (by omega) (by omega)) (q.1 336 (by omega) (by omega) (by omega))
theorem rf_aa_l {M0 : sd_M} {T : Nat → Int} (hT : ms_ok T) (t0 : T 58 = 0) (no : 0 ≤ T 127 ∧ T 127 ≤ 10) {W : (Nat → Int) → Int → Int} (hW : rf_W M0 (M0 331 21) W) {r : Nat} (hr : r ≤ 6) : ∀ (m k fu : Nat) (M : sd_M) (a : Bool), k + m = 31 → m < fu → M 341 = ms_pn W T k → rf_y M0 M → ms_T (f_X10_areAllSo_8 fu (r : Int) (if a = true then 1 else 0) (k : Int) M) (fun v N => v = (if (a && ms_ac T (ms_co W T) m k) = true then 1 else 0) ∧ N 341 = ms_pn W T 31 ∧ rf_y M0 N ∧ (∀ i, N 352 i = if 31 * r + k ≤ i ∧ i < 31 * r + 31 then ms_co W T (i - 31 * r) else M 352 i) ∧ N 351 = M 351) := by
  intro m
  induction m with
  | zero =>
    intro k fu M a hk hf e y
    obtain ⟨fu, rfl⟩ : ∃ g, fu = g + 1 := ⟨fu - 1, by omega⟩
    rw [f_X10_areAllSo_8, if_pos (by omega), if_pos (by cases a <;> simp)]
    rw [show k = 31 by omega] at e
    refine ms_t_r ⟨?_, e, y, fun i => ?_, rfl⟩
    · rw [ms_ac, Bool.and_true]
    · rw [if_neg (by omega)]
  | succ m ih =>
    intro k fu M a hk hf e y
    obtain ⟨fu, rfl⟩ : ∃ g, fu = g + 1 := ⟨fu - 1, by omega⟩
    have p := ms_pn_p (W := W) hT k
    rw [f_X10_areAllSo_8, if_neg (by omega)]
    have w2 : rf_W M (M 331 21) W := by
      rw [y.2 21 (by omega)]
      exact rf_W_y hW y
    refine ms_t_b (rf_passes (M := M) (by rw [e]; exact p.1) (by rw [e, p.2.1]; omega) w2) (fun v N hN => ?_)
    rw [e] at hN
    simp only []
    have yN := rf_y_tr y (rf_y_d hN.2.2)
    have eN : N 341 = ms_pn W T (k + 1) := hN.2.1
    have p2 := ms_pn_p (W := W) hT (k + 1)
    have an : f_X10_areNotesSo (k : Int) v N = some (if ms_an T (k : Int) (ms_co W T k) = true then 1 else 0, N) := by
      rw [rf_notes (by rw [eN, p2.2.2 127 (by omega)]; exact no), eN, ms_an_c (S := T) (T := ms_pn W T (k + 1)) (fun i hi => p2.2.2 i (by omega)), hN.1]
      rfl
    have n352 : N 352 = M 352 := hN.2.2.1 352 (by omega) (by omega) (by omega) (by omega) (by omega) (by omega) (by omega)
    have n351 : N 351 = M 351 := hN.2.2.1 351 (by omega) (by omega) (by omega) (by omega) (by omega) (by omega) (by omega)
    have vk : v = ms_co W T k := hN.1
    have nx : ∀ b : Bool, ms_T (f_X10_areAllSo_39 (f_X10_areAllSo_8 fu) (r : Int) (k : Int) v (if b = true then 1 else 0) N) (fun v N => v = (if (b && ms_ac T (ms_co W T) m (k + 1)) = true then 1 else 0) ∧ N 341 = ms_pn W T 31 ∧ rf_y M0 N ∧ (∀ i, N 352 i = if 31 * r + k ≤ i ∧ i < 31 * r + 31 then ms_co W T (i - 31 * r) else M 352 i) ∧ N 351 = M 351) := fun b => by
      unfold f_X10_areAllSo_39
      rw [sd_wid (z := 31 * (r : Int)) (by omega) (by omega), sd_wid (z := 31 * (r : Int) + (k : Int)) (by omega) (by omega), if_pos (by omega), sd_wid (z := (k : Int) + 1) (by omega) (by omega), show (31 * (r : Int) + (k : Int)).toNat = 31 * r + k by omega]
      have up := ih (k + 1) fu (sd_s N 352 (31 * r + k) v) b (by omega) (by omega) (by rw [sd_s_a (by omega), eN]) (rf_y_tr yN (rf_y_s (by omega)))
      push_cast at up
      refine ms_t_w up (fun v2 K hK => ⟨hK.1, hK.2.1, hK.2.2.1, fun i => ?_, by rw [hK.2.2.2.2, sd_s_a (by omega), n351]⟩)
      rw [hK.2.2.2.1 i]
      by_cases c : i = 31 * r + k
      · rw [if_neg (by omega), if_pos (by omega), c, sd_s_at, vk, show 31 * r + k - 31 * r = k by omega]
      · rw [sd_s_j c, n352]
        by_cases d : 31 * r + k ≤ i ∧ i < 31 * r + 31
        · rw [if_pos d, if_pos (by omega)]
        · rw [if_neg d, if_neg (by omega)]
    cases a
    · simp only [Bool.false_eq_true, if_false, if_true, Bool.false_and]
      have := nx false
      simp only [Bool.false_eq_true, if_false, Bool.false_and] at this
      exact this
    · simp only [if_true, Bool.true_and]
      rw [if_neg (by omega), an, Option.bind_some]
      simp only []
      rw [ms_ac]
      cases q : ms_an T (k : Int) (ms_co W T k)
      · simp only [Bool.false_eq_true, if_false, if_true]
        have := nx false
        simp only [Bool.false_eq_true, if_false, Bool.false_and] at this
        exact this
      · simp only [if_true]
        rw [if_neg (by omega)]
        have := nx true
        simp only [if_true, Bool.true_and] at this
        exact this
theorem ms_ou_bg {S : Nat → Int} (h : ms_tl S) : ms_ou S (ms_bg S) := fun i hi => by
  have b := h.2.1
  rcases hi with hi | hi
  · exact ms_bg_lo hi
  · exact ms_bg_hi b.2 hi
theorem rf_areAllSo {M : sd_M} (h : ms_tl (M 341)) (no : 0 ≤ M 341 127 ∧ M 341 127 ≤ 10) {W : (Nat → Int) → Int → Int} (hW : rf_W M (M 331 21) W) {r : Nat} (hr : r ≤ 6) : ms_T (f_X10_areAllSo (r : Int) M) (fun v N => v = (if ms_ac (M 341) (ms_co W (ms_bg (M 341))) 31 0 = true then 1 else 0) ∧ ms_ou (M 341) (N 341) ∧ rf_y M N ∧ (∀ i, N 352 i = if 31 * r ≤ i ∧ i < 31 * r + 31 then ms_co W (ms_bg (M 341)) (i - 31 * r) else M 352 i) ∧ N 351 = M 351) := by
  have ou := ms_ou_bg h
  have ok := ms_bg_ok h
  unfold f_X10_areAllSo
  refine ms_t_b (rf_begins h) (fun _ N hN => ?_)
  simp only []
  have yN : rf_y M N := rf_y_41 hN.2
  have z := rf_aa_l (M0 := N) (T := ms_bg (M 341)) ok (ms_bg_0 h.2.1.2 (by omega) (by omega) (by omega)) (by rw [ou 127 (by omega)]; exact no) (W := W) (by rw [hN.2 331 (by omega)]; exact rf_W_y hW yN) hr 31 0 4000 N true (by omega) (by omega) hN.1 rf_y_rf
  simp only [if_true, Bool.true_and] at z
  refine ms_t_w z (fun v K hK => ⟨?_, ?_, rf_y_tr yN hK.2.2.1, fun i => ?_, by rw [hK.2.2.2.2, hN.2 351 (by omega)]⟩)
  · rw [hK.1, ms_ac_s (S := M 341) (T := ms_bg (M 341)) (fun i hi => ou i (by omega))]
  · rw [hK.2.1]
    exact ms_ou_tr ou (ms_pn_p ok 31).2.2
  · rw [hK.2.2.2.1 i, hN.2 352 (by omega)]
    rfl
