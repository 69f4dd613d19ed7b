/-! the class's book holds a state -/
def cl_bs (M : sd_M) (b : Nat) (S : Nat → Int) : Prop := (M b 0 = S 59 ∧ M b 1 = S 58 ∧ M b 3 = S 60 ∧ M b 4 = S 61) ∧ (∀ f : Nat, (f : Int) < S 2 → M (b + 1) f = S (62 + f) ∧ M (b + 2) f = S (13 + f) ∧ M (b + 5) f = S (80 + f)) ∧ (∀ f : Nat, f < 9 → M (b + 3) f = S (71 + f)) ∧ (∀ k : Nat, (k : Int) < S 60 → M (b + 6) k = S (89 + k)) ∧ (∀ k : Nat, (k : Int) < S 61 → M (b + 7) k = S (98 + k))
def cl_sn (M : sd_M) (b : Nat) (S : Nat → Int) : Prop := M b 2 = ms_pl S ∧ ∀ f : Nat, f < 9 → M (b + 4) f = ms_sg S (f : Int)
def cl_bk (M : sd_M) (b : Nat) (S : Nat → Int) : Prop := cl_bs M b S ∧ cl_sn M b S
/-- nothing is signed where no line is -/
def cl_s0 (M : sd_M) (b : Nat) (S : Nat → Int) : Prop := ∀ f : Nat, f < 9 → S (71 + f) ≠ 1 → M (b + 4) f = 0
/-- those that are parted among -/
def cl_ot (S : Nat → Int) : Nat → Nat → Bool
  | 0, _ => false
  | k + 1, f => cl_ot S k f || (!(decide (ms_wt S k = 0)) && (S (89 + k)).toNat == f)
theorem cl_ot_1 {S : Nat → Int} {k : Nat} (h : ms_wt S k ≠ 0) : cl_ot S (k + 1) = fun f => cl_ot S k f || (S (89 + k)).toNat == f := by
  funext f
  simp [cl_ot, h]
theorem cl_ot_0 {S : Nat → Int} {k : Nat} (h : ms_wt S k = 0) : cl_ot S (k + 1) = cl_ot S k := by
  funext f
  simp [cl_ot, h]
theorem cl_ot_t {S : Nat → Int} {f : Nat} : ∀ k, (cl_ot S k f = true ↔ ∃ j, j < k ∧ ms_wt S j ≠ 0 ∧ (S (89 + j)).toNat = f)
  | 0 => by simp [cl_ot]
  | k + 1 => by
    have i := cl_ot_t (S := S) (f := f) k
    simp only [cl_ot, Bool.or_eq_true, Bool.and_eq_true, Bool.not_eq_true', decide_eq_false_iff_not, beq_iff_eq]
    constructor
    · rintro (h | h)
      · obtain ⟨j, j1, j2⟩ := i.mp h
        exact ⟨j, by omega, j2⟩
      · exact ⟨k, by omega, h⟩
    · rintro ⟨j, j1, j2⟩
      by_cases e : j = k
      · subst e; exact Or.inr j2
      · exact Or.inl (i.mpr ⟨j, by omega, j2⟩)
def cl_sl (M0 M : sd_M) (b : Nat) (S : Nat → Int) (k : Nat) : Prop := (∀ a, a ≠ b → a ≠ b + 4 → M a = M0 a) ∧ (∀ j, j ≠ 2 → M b j = M0 b j) ∧ M b 2 = ms_plk S k ∧ (∀ j, j < k → ms_wt S j = 0 → M (b + 4) (S (89 + j)).toNat = S (62 + (S (89 + j)).toNat)) ∧ (∀ f, (∀ j : Nat, (j : Int) < S 60 → f ≠ (S (89 + j)).toNat) → M (b + 4) f = M0 (b + 4) f)
theorem cl_sign_17 {M0 : sd_M} {b : Nat} {S : Nat → Int} (h : ms_ok S) (hb : cl_bs M0 b S) (kk : Int → Int → Int → sd_M → Option (Int × sd_M)) : ∀ (m k fu : Nat) (M : sd_M), (k : Int) + m = S 60 → m < fu → cl_sl M0 M b S k → ∃ N, cl_sl M0 N b S (S 60).toNat ∧ f_X0_sign_17 kk b fu (ms_lf S k) (ms_bt (cl_ot S k) 9) (ms_sum (ms_wt S) k) (k : Int) M = kk (ms_le S) (ms_bt (cl_ot S (S 60).toNat) 9) (ms_al S) N := by
  have l := ms_lines h
  have o := h.2.2.1
  obtain ⟨⟨b0, b1, b3, b4⟩, bf, bw, bl, bo⟩ := hb
  intro m
  induction m with
  | zero =>
    intro k fu M hk hf hM
    obtain ⟨fu, rfl⟩ : ∃ g, fu = g + 1 := ⟨fu - 1, by omega⟩
    have ek : (S 60).toNat = k := by omega
    refine ⟨M, by rw [ek]; exact hM, ?_⟩
    rw [f_X0_sign_17, hM.2.1 3 (by omega), b3, if_pos (by omega), ms_le, ms_al, ek]
  | succ m ih =>
    intro k fu M hk hf hM
    obtain ⟨fu, rfl⟩ : ∃ g, fu = g + 1 := ⟨fu - 1, by omega⟩
    obtain ⟨m1, m2, m3, m4, m5⟩ := hM
    have a := ms_line h (k := k) (by omega)
    have p := ms_plk_le h k (by omega)
    have lf := ms_lf_b h k (by omega)
    have c := ms_sum_b (w := ms_wt S) (a := 0) (b := 999) k (fun j hj => ms_wt_b h (by omega))
    have e6 : M (b + 6) k = S (89 + k) := by rw [m1 _ (by omega) (by omega), bl k (by omega)]
    have fl := bf (S (89 + k)).toNat (by omega)
    have e1 : M (b + 1) (S (89 + k)).toNat = S (62 + (S (89 + k)).toNat) := by rw [m1 _ (by omega) (by omega), fl.1]
    have e2 : M (b + 2) (S (89 + k)).toNat = S (13 + (S (89 + k)).toNat) := by rw [m1 _ (by omega) (by omega), fl.2.1]
    have hc : (0 ≤ S (89 + k) ∧ S (89 + k) < 9) = True := eq_true (by omega)
    have hk9 : (0 ≤ (k : Int) ∧ (k : Int) < 9) = True := eq_true (by omega)
    have up := ih (k + 1) fu
    have pk : ms_plk S (k + 1) = ms_plk S k + S (62 + (S (89 + k)).toNat) := rfl
    have wk : ms_sum (ms_wt S) (k + 1) = ms_sum (ms_wt S) k + ms_wt S k := rfl
    push_cast at up
    rw [f_X0_sign_17, m2 3 (by omega), b3, if_neg (by omega)]
    simp only [hk9, if_true, Int.toNat_natCast, e6, hc, sd_s_a (show b + 2 ≠ b by omega), sd_s_a (show b + 1 ≠ b by omega), sd_s_a (show b + 1 ≠ b + 4 by omega), e1, e2, m3, f_X0_sign_117, f_X0_sign_100]
    rw [sd_wid (z := ms_plk S k + S (62 + (S (89 + k)).toNat)) (by omega) (by omega), sd_wid (z := (k : Int) + 1) (by omega) (by omega)]
    by_cases is : S (13 + (S (89 + k)).toNat) = 1 ∧ S (62 + (S (89 + k)).toNat) ≤ ms_lf S k
    · have w0 : ms_wt S k = 0 := if_pos is
      have s0 : ms_s0 S k = S (62 + (S (89 + k)).toNat) := if_pos is
      rw [if_pos is.1, if_neg (by omega), sd_wid (by omega) (by omega)]
      have u := up (sd_s (sd_s M b 2 (ms_plk S (k + 1))) (b + 4) (S (89 + k)).toNat (S (62 + (S (89 + k)).toNat))) (by omega) (by omega) ⟨fun x h1 h2 => by rw [sd_s_a h2, sd_s_a h1, m1 x h1 h2], fun j hj => by rw [sd_s_a (show b ≠ b + 4 by omega), sd_s_j hj, m2 j hj], by rw [sd_s_a (show b ≠ b + 4 by omega), sd_s_at], fun j hj hw => by
        by_cases ej : j = k
        · subst ej; rw [sd_s_at]
        · have ne : (S (89 + j)).toNat ≠ (S (89 + k)).toNat := fun e => ej (h.2.2.2.2.2.2.1 j k (by omega) (by omega) (by
            have := ms_line h (k := j) (by omega)
            omega))
          rw [sd_s_j ne, sd_s_a (show b + 4 ≠ b by omega), m4 j (by omega) hw], fun f hf => by rw [sd_s_j (hf k (by omega)), sd_s_a (show b + 4 ≠ b by omega), m5 f hf]⟩
      obtain ⟨N, n1, n2⟩ := u
      refine ⟨N, n1, ?_⟩
      rw [← n2, cl_ot_0 w0, wk, w0, Int.add_zero, ms_lf_s, s0, pk]
    · have w0 : ms_wt S k = S (62 + (S (89 + k)).toNat) := if_neg is
      have s0 : ms_s0 S k = 0 := if_neg is
      have u := up (sd_s M b 2 (ms_plk S (k + 1))) (by omega) (by omega) ⟨fun x h1 h2 => by rw [sd_s_a h1, m1 x h1 h2], fun j hj => by rw [sd_s_j hj, m2 j hj], by rw [sd_s_at], fun j hj hw => by
        by_cases ej : j = k
        · subst ej; omega
        · rw [sd_s_a (show b + 4 ≠ b by omega), m4 j (by omega) hw], fun f hf => by rw [sd_s_a (show b + 4 ≠ b by omega), m5 f hf]⟩
      obtain ⟨N, n1, n2⟩ := u
      refine ⟨N, n1, ?_⟩
      have z2 : sd_or (ms_bt (cl_ot S k) 9) (sd_shl 1 (S (89 + k))) = ms_bt (cl_ot S (k + 1)) 9 := by
        rw [cl_ot_1 (by omega), ← ms_bt_o (by omega), Int.toNat_of_nonneg (by omega)]
      rw [z2, sd_wid (z := ms_sum (ms_wt S) k + S (62 + (S (89 + k)).toNat)) (by omega) (by omega), ← n2, wk, w0, ms_lf_s, s0, Int.sub_zero, pk]
      by_cases i1 : S (13 + (S (89 + k)).toNat) = 1
      · rw [if_pos i1, if_pos (by omega)]
      · rw [if_neg i1]
theorem ms_pt_all {w : Nat → Int} {n k : Nat} (hs : 0 < ms_sum w n) : ms_pt (ms_sum w n) w n k = w k := by
  have f : ∀ j, ms_fl (ms_sum w n) w n j = w j := fun j => Int.mul_ediv_cancel_left _ (by omega)
  have r : ms_rs (ms_sum w n) w n = 0 := by
    unfold ms_rs
    rw [ms_sum_c (v := ms_fl (ms_sum w n) w n) (w := w) n (fun j _ => f j)]
    omega
  have b := ms_rk_b (r := ms_rm (ms_sum w n) w n) (k := k) n
  unfold ms_pt
  rw [if_neg (by omega), f, r, if_neg (by omega), Int.add_zero]
theorem cl_sign {M : sd_M} {b : Nat} {S : Nat → Int} (h : ms_ok S) (hb : cl_bs M b S) (h0 : cl_s0 M b S) : ms_T (f_X0_sign b M) (fun _ N => cl_bk N b S ∧ ∀ a, a ≠ b → a ≠ b + 4 → N a = M a) := by
  have l := ms_lines h
  have o := h.2.2.1
  unfold f_X0_sign
  obtain ⟨N, n1, n2⟩ := cl_sign_17 h hb (f_X0_sign_123 b) (S 60).toNat 0 4000 (sd_s M b 2 0) (by omega) (by omega) ⟨fun x h1 _ => sd_s_a h1, fun j hj => sd_s_j hj, by rw [sd_s_at]; rfl, fun j hj => absurd hj (by omega), fun f _ => by rw [sd_s_a (show b + 4 ≠ b by omega)]⟩
  have n3 : f_X0_sign_17 (f_X0_sign_123 b) b 4000 (S 59) 0 0 0 (sd_s M b 2 0) = _ := n2
  rw [hb.1.1, n3, f_X0_sign_123]
  obtain ⟨⟨b0, b1, b3, b4⟩, bf, bw, bl, bo⟩ := hb
  obtain ⟨m1, m2, m3, m4, m5⟩ := n1
  have q6 : ∀ k : Nat, (k : Int) < S 60 → N (b + 6) k = S (89 + k) := fun k hk => by rw [m1 _ (by omega) (by omega), bl k hk]
  have un : ∀ j k : Nat, (j : Int) < S 60 → (k : Int) < S 60 → (S (89 + j)).toNat = (S (89 + k)).toNat → j = k := fun j k hj hk e => h.2.2.2.2.2.2.1 j k hj hk (by
    have := ms_line h hj
    have := ms_line h hk
    omega)
  have hq : ∀ k : Nat, (k : Int) < S 60 → (cl_ot S (S 60).toNat (S (89 + k)).toNat = true ↔ ms_wt S k ≠ 0) := fun k hk => by
    rw [cl_ot_t]
    constructor
    · rintro ⟨j, j1, j2, j3⟩
      rw [← un j k (by omega) hk j3]
      exact j2
    · intro e
      exact ⟨k, by omega, e, rfl⟩
  have hl : cl_ln N b (S 60).toNat := ⟨⟨by omega, by rw [m2 3 (by omega), b3]; omega⟩, fun k hk => by
    rw [q6 k (by omega)]
    have := ms_line h (k := k) (by omega)
    omega, fun j k hj hk e => by
    rw [q6 j (by omega), q6 k (by omega)] at e
    exact h.2.2.2.2.2.2.1 j k (by omega) (by omega) e⟩
  have ew : ∀ k, k < (S 60).toNat → cl_wt N b (b + 1) (cl_ot S (S 60).toNat) k = ms_wt S k := fun k hk => by
    have a := ms_line h (k := k) (by omega)
    have q := hq k (by omega)
    unfold cl_wt
    rw [q6 k (by omega)]
    by_cases z : ms_wt S k = 0
    · rw [if_neg (fun e => (q.mp e) z), z]
    · rw [if_pos (q.mpr z), m1 _ (by omega) (by omega), (bf _ (by omega)).1]
      unfold ms_wt at z ⊢
      split
      · rename_i c
        rw [if_pos c] at z
        exact absurd rfl z
      · rfl
  have sz := ms_szw h
  have es : ms_sum (cl_wt N b (b + 1) (cl_ot S (S 60).toNat)) (S 60).toNat = ms_al S := ms_sum_c _ ew
  have al0 : 0 ≤ ms_al S := (ms_sz_s sz).1
  have le9 : (0 ≤ (if ms_al S < ms_le S then ms_al S else ms_le S)) ∧ (if ms_al S < ms_le S then ms_al S else ms_le S) ≤ 9999 := by
    have := sz.1
    split <;> omega
  have hz : ms_sz (if ms_al S < ms_le S then ms_al S else ms_le S) (cl_wt N b (b + 1) (cl_ot S (S 60).toNat)) (S 60).toNat := ⟨⟨by omega, le9⟩, fun k hk => by rw [ew k hk]; exact sz.2 k hk⟩
  refine ms_t_b (cl_part (b := b) (c := b + 1) (d := b + 4) hl hz (fun k hk => by
    have a := ms_line h (k := k) (by omega)
    rw [q6 k (by omega), m1 _ (by omega) (by omega), (bf _ (by omega)).1]
    omega) ⟨by omega, by omega, by omega⟩) (fun r K hK => ?_)
  dsimp only
  refine ms_t_r ?_
  obtain ⟨k1, k2, k3⟩ := hK
  have fr : ∀ a, a ≠ b → a ≠ b + 4 → K a = M a := fun a h1 h2 => by rw [k1 a h2, m1 a h1 h2]
  have fb : ∀ j, j ≠ 2 → K b j = M b j := fun j hj => by rw [k1 b (by omega), m2 j hj]
  refine ⟨⟨⟨⟨by rw [fb 0 (by omega)]; exact b0, by rw [fb 1 (by omega)]; exact b1, by rw [fb 3 (by omega)]; exact b3, by rw [fb 4 (by omega)]; exact b4⟩, fun f hf => by rw [fr _ (by omega) (by omega), fr _ (by omega) (by omega), fr _ (by omega) (by omega)]; exact bf f hf, fun f hf => by rw [fr _ (by omega) (by omega)]; exact bw f hf, fun k hk => by rw [fr _ (by omega) (by omega)]; exact bl k hk, fun k hk => by rw [fr _ (by omega) (by omega)]; exact bo k hk⟩, by rw [k1 b (by omega), m3]; rfl, fun f hf => ?_⟩, fr⟩
  by_cases on : S (71 + f) = 1
  · have f2 : (f : Int) < S 2 := by
      by_cases c : (f : Int) < S 2
      · exact c
      · have := h.2.2.2.2.1 f (by omega) hf
        omega
    obtain ⟨k, hk, e⟩ := h.2.2.2.2.2.2.2 f f2 on
    have ef : (S (89 + k)).toNat = f := by omega
    have sg : ms_sg S (f : Int) = ms_sk S k := by
      unfold ms_sg
      rw [if_pos ⟨⟨by omega, f2⟩, by rw [Int.toNat_natCast]; exact on⟩, ms_po_e h hk e]
    rw [sg]
    have wb := ms_wt_b h hk
    have q := hq k hk
    rw [ef] at q
    unfold ms_sk
    by_cases z : ms_wt S k = 0
    · rw [if_pos (by omega), k2 f (fun j hj hq2 e2 => by
        rw [q6 j (by omega)] at e2
        have := un j k (by omega) hk (by omega)
        subst this
        rw [q6 j (by omega), ef] at hq2
        exact (q.mp hq2) z)]
      have := m4 k (by omega) z
      rw [ef] at this
      rw [this, ef]
    · have sp : 0 < ms_al S := by
        have m0 := ms_sum_mono (w := ms_wt S) (n := (S 60).toNat) (fun j hj => (sz.2 j hj).1) (k + 1) (by omega)
        have m9 := ms_sum_mono (w := ms_wt S) (n := k) (fun j hj => (sz.2 j (by omega)).1) 0 (by omega)
        rw [show ms_sum (ms_wt S) (k + 1) = ms_sum (ms_wt S) k + ms_wt S k from rfl] at m0
        rw [show ms_sum (ms_wt S) 0 = 0 from rfl] at m9
        unfold ms_al
        omega
      have kk := k3 (by rw [es]; exact sp) k (by omega) (by rw [q6 k hk, ef]; exact q.mpr z)
      rw [q6 k hk, ef] at kk
      rw [if_neg (by omega), kk, ms_pt_c ew (by omega)]
      by_cases c : ms_al S ≤ ms_le S
      · rw [if_pos c]
        have : (if ms_al S < ms_le S then ms_al S else ms_le S) = ms_sum (ms_wt S) (S 60).toNat := by
          have e3 : ms_sum (ms_wt S) (S 60).toNat = ms_al S := rfl
          split <;> omega
        rw [this]
        exact ms_pt_all sp
      · rw [if_neg c, if_neg (by omega)]
  · have no : ∀ j : Nat, (j : Int) < S 60 → f ≠ (S (89 + j)).toNat := fun j hj e => by
      have := ms_line h hj
      rw [← e] at this
      exact on this.2.1
    rw [k2 f (fun j hj _ e => no j (by omega) (by rw [q6 j (by omega)] at e; exact e)), m5 f no, h0 f hf on]
    unfold ms_sg
    rw [if_neg (fun e => on (by have := e.2; rw [Int.toNat_natCast] at this; exact this))]
