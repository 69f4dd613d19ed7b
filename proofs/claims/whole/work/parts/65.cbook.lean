/-! the class: taking, writing anew, beginning, copying; what a book holds does not hang on other numbers -/
theorem ms_ok_g {S T : Nat → Int} (h : ms_ok S) (ht : ms_tl T) (e2 : T 2 = S 2) (h59 : (0 ≤ T 59 ∧ T 59 ≤ 999) ∧ (T 0 = 1 → 1 ≤ T 59)) (hw : ∀ f : Nat, (f : Int) < S 2 → (1 ≤ T (62 + f) ∧ T (62 + f) ≤ 999) ∧ (0 ≤ T (80 + f) ∧ T (80 + f) ≤ 9999)) (e : ∀ i, (i = 60 ∨ i = 61 ∨ (71 ≤ i ∧ i < 80) ∨ (89 ≤ i ∧ i < 98)) → T i = S i) : ms_ok T := by
  have l := ms_lines h
  have cw : ms_cw T (S 2).toNat = ms_cw S (S 2).toNat := ms_cw_c _ (fun i hi => by rw [e _ (by omega)])
  obtain ⟨t, h1, h2, h3, h4, h5, h6, h7⟩ := h
  refine ⟨ht, ?_, h59, ?_, ?_, ?_, ?_, ?_⟩
  · rw [e2, cw, e 60 (by omega), e 61 (by omega)]; exact h1
  · intro f hf
    rw [e2] at hf
    rw [e (71 + f) (by omega)]
    exact ⟨(hw f hf).1, (h3 f hf).2.1, (hw f hf).2⟩
  · intro f hf h9
    rw [e2] at hf
    rw [e (71 + f) (by omega)]
    exact h4 f hf h9
  · intro k hk
    rw [e 60 (by omega)] at hk
    have a := h5 k hk
    rw [e (89 + k) (by omega), e2, e (71 + (S (89 + k)).toNat) (by omega)]
    exact a
  · intro j k hj hk
    rw [e 60 (by omega)] at hj hk
    rw [e (89 + k) (by omega), e (89 + j) (by omega)]
    exact h6 j k hj hk
  · intro f hf on
    rw [e2] at hf
    rw [e (71 + f) (by omega)] at on
    obtain ⟨k, k1, k2⟩ := h7 f hf on
    exact ⟨k, by rw [e 60 (by omega)]; exact k1, by rw [e (89 + k) (by omega)]; exact k2⟩
def ms_eq (S T : Nat → Int) : Prop := ∀ i, (i = 2 ∨ (13 ≤ i ∧ i < 22) ∨ i = 59 ∨ i = 60 ∨ (62 ≤ i ∧ i < 80) ∨ (89 ≤ i ∧ i < 98)) → T i = S i
theorem ms_plk_c {S T : Nat → Int} (h : ms_ok S) (e : ms_eq S T) : ∀ k : Nat, (k : Int) ≤ S 60 → ms_plk T k = ms_plk S k
  | 0, _ => rfl
  | k + 1, hk => by
    have l := ms_lines h
    have a := ms_line h (k := k) (by omega)
    rw [ms_plk, ms_plk, ms_plk_c h e k (by omega), e (89 + k) (by omega), e (62 + (S (89 + k)).toNat) (by omega)]
theorem ms_pl_c {S T : Nat → Int} (h : ms_ok S) (e : ms_eq S T) : ms_pl T = ms_pl S := by
  have l := ms_lines h
  unfold ms_pl
  rw [e 60 (by omega)]
  exact ms_plk_c h e _ (by omega)
theorem ms_lf_c {S T : Nat → Int} (h : ms_ok S) (e : ms_eq S T) : ∀ k : Nat, (k : Int) ≤ S 60 → ms_lf T k = ms_lf S k
  | 0, _ => by rw [ms_lf, ms_lf, e 59 (by omega)]
  | k + 1, hk => by
    have l := ms_lines h
    have a := ms_line h (k := k) (by omega)
    rw [ms_lf, ms_lf, ms_lf_c h e k (by omega), e (89 + k) (by omega), e (62 + (S (89 + k)).toNat) (by omega), e (13 + (S (89 + k)).toNat) (by omega)]
theorem ms_wt_c {S T : Nat → Int} (h : ms_ok S) (e : ms_eq S T) {k : Nat} (hk : (k : Int) < S 60) : ms_wt T k = ms_wt S k := by
  have l := ms_lines h
  have a := ms_line h hk
  unfold ms_wt
  rw [ms_lf_c h e k (by omega), e (89 + k) (by omega), e (62 + (S (89 + k)).toNat) (by omega), e (13 + (S (89 + k)).toNat) (by omega)]
theorem ms_sk_c {S T : Nat → Int} (h : ms_ok S) (e : ms_eq S T) {k : Nat} (hk : (k : Int) < S 60) : ms_sk T k = ms_sk S k := by
  have l := ms_lines h
  have a := ms_line h hk
  have w : ∀ j, j < (S 60).toNat → ms_wt T j = ms_wt S j := fun j hj => ms_wt_c h e (by omega)
  have le : ms_le T = ms_le S := by
    unfold ms_le
    rw [e 60 (by omega)]
    exact ms_lf_c h e _ (by omega)
  have al : ms_al T = ms_al S := by
    unfold ms_al
    rw [e 60 (by omega)]
    exact ms_sum_c _ w
  unfold ms_sk
  rw [le, al, w k (by omega), e (89 + k) (by omega), e (62 + (S (89 + k)).toNat) (by omega), e 60 (by omega), ms_pt_c w (by omega)]
theorem ms_fi_c {S T : Nat → Int} {f : Int} : ∀ n : Nat, (∀ k, k < n → T (89 + k) = S (89 + k)) → ms_fi T f n = ms_fi S f n
  | 0, _ => rfl
  | n + 1, h => by rw [ms_fi, ms_fi, ms_fi_c n (fun k hk => h k (by omega)), h n (by omega)]
theorem ms_sg_c {S T : Nat → Int} (h : ms_ok S) (e : ms_eq S T) (f : Int) : ms_sg T f = ms_sg S f := by
  have l := ms_lines h
  unfold ms_sg
  rw [e 2 (by omega)]
  by_cases c : 0 ≤ f ∧ f < S 2
  · rw [e (71 + f.toNat) (by omega)]
    by_cases d : S (71 + f.toNat) = 1
    · rw [if_pos ⟨c, d⟩, if_pos ⟨c, d⟩]
      have p := ms_po_l h ⟨c, d⟩
      have : ms_po T f = ms_po S f := by
        unfold ms_po
        rw [e 60 (by omega)]
        exact ms_fi_c _ (fun k hk => e _ (by omega))
      rw [this, ms_sk_c h e p.1]
    · rw [if_neg (fun x => d x.2), if_neg (fun x => d x.2)]
  · rw [if_neg (fun x => c x.1), if_neg (fun x => c x.1)]
theorem ms_sh_c {S T : Nat → Int} (h : ms_ok S) (e : ms_eq S T) : ms_sh T = ms_sh S := by
  unfold ms_sh
  rw [ms_pl_c h e, e 59 (by omega)]
theorem cl_bs_c {M N : sd_M} {b : Nat} {S T : Nat → Int} (h : ms_ok S) (hb : cl_bs M b S) (e : ∀ i, (i = 2 ∨ (13 ≤ i ∧ i < 22) ∨ (58 ≤ i ∧ i < 107)) → T i = S i) (hN : ∀ a, b ≤ a → a < b + 8 → N a = M a) : cl_bs N b T := by
  have l := ms_lines h
  obtain ⟨⟨b0, b1, b3, b4⟩, bf, bw, bl, bo⟩ := hb
  refine ⟨⟨?_, ?_, ?_, ?_⟩, fun f hf => ?_, fun f hf => ?_, fun k hk => ?_, fun k hk => ?_⟩
  · rw [hN b (by omega) (by omega), e 59 (by omega)]; exact b0
  · rw [hN b (by omega) (by omega), e 58 (by omega)]; exact b1
  · rw [hN b (by omega) (by omega), e 60 (by omega)]; exact b3
  · rw [hN b (by omega) (by omega), e 61 (by omega)]; exact b4
  · rw [e 2 (by omega)] at hf
    rw [hN _ (by omega) (by omega), hN _ (by omega) (by omega), hN _ (by omega) (by omega), e (62 + f) (by omega), e (13 + f) (by omega), e (80 + f) (by omega)]
    exact bf f hf
  · rw [hN _ (by omega) (by omega), e (71 + f) (by omega)]; exact bw f hf
  · rw [e 60 (by omega)] at hk
    rw [hN _ (by omega) (by omega), e (89 + k) (by omega)]; exact bl k hk
  · rw [e 61 (by omega)] at hk
    rw [hN _ (by omega) (by omega), e (98 + k) (by omega)]; exact bo k hk
theorem cl_bk_c {M N : sd_M} {b : Nat} {S T : Nat → Int} (h : ms_ok S) (hb : cl_bk M b S) (e : ∀ i, (i = 2 ∨ (13 ≤ i ∧ i < 22) ∨ (58 ≤ i ∧ i < 107)) → T i = S i) (hN : ∀ a, b ≤ a → a < b + 8 → N a = M a) : cl_bk N b T := by
  have q : ms_eq S T := fun i hi => e i (by omega)
  refine ⟨cl_bs_c h hb.1 e hN, ?_, fun f hf => ?_⟩
  · rw [hN b (by omega) (by omega), ms_pl_c h q]; exact hb.2.1
  · rw [hN _ (by omega) (by omega), ms_sg_c h q]; exact hb.2.2 f hf
/-- the day's number alone -/
theorem cl_bk_58 {M : sd_M} {b : Nat} {S : Nat → Int} (h : ms_ok S) (hb : cl_bk M b S) (v : Int) : cl_bk (sd_s M b 1 v) b (ms_u S 58 v) := by
  have q : ms_eq S (ms_u S 58 v) := fun i hi => ms_u_ne (by omega)
  have e : ∀ i, i ≠ 58 → ms_u S 58 v i = S i := fun i hi => ms_u_ne hi
  obtain ⟨⟨⟨b0, b1, b3, b4⟩, bf, bw, bl, bo⟩, bp, bsg⟩ := hb
  refine ⟨⟨⟨?_, ?_, ?_, ?_⟩, fun f hf => ?_, fun f hf => ?_, fun k hk => ?_, fun k hk => ?_⟩, ?_, fun f hf => ?_⟩
  · rw [sd_s_j (by omega), e 59 (by omega)]; exact b0
  · rw [sd_s_at, ms_u_at]
  · rw [sd_s_j (by omega), e 60 (by omega)]; exact b3
  · rw [sd_s_j (by omega), e 61 (by omega)]; exact b4
  · rw [e 2 (by omega)] at hf
    rw [sd_s_a (by omega), sd_s_a (by omega), sd_s_a (by omega), e (62 + f) (by omega), e (13 + f) (by have := (ms_lines h).2.2.1; omega), e (80 + f) (by omega)]
    exact bf f hf
  · rw [sd_s_a (by omega), e (71 + f) (by omega)]; exact bw f hf
  · rw [e 60 (by omega)] at hk
    rw [sd_s_a (by omega), e (89 + k) (by omega)]; exact bl k hk
  · rw [e 61 (by omega)] at hk
    rw [sd_s_a (by omega), e (98 + k) (by omega)]; exact bo k hk
  · rw [sd_s_j (by omega), ms_pl_c h q]; exact bp
  · rw [sd_s_a (by omega), ms_sg_c h q]; exact bsg f hf
theorem ms_tk_e {S : Nat → Int} {f : Int} {i : Nat} : ms_tk S f i = if i = 60 then S 60 + 1 else if i = 89 + (S 60).toNat then f else if i = 71 + f.toNat then 1 else S i := rfl
theorem cl_takeIn {M : sd_M} {b : Nat} {S : Nat → Int} (h : ms_ok S) (hb : cl_bk M b S) {f : Int} (hf : (0 ≤ f ∧ f < S 2) ∧ S (71 + f.toNat) = 0) : ms_T (f_X0_takeIn b f M) (fun _ N => cl_bk N b (ms_tk S f) ∧ cl_fr M N b) := by
  have l := ms_lines h
  have w := ms_cw_f hf.2 (S 2).toNat (by omega)
  have o := h.2.1
  obtain ⟨⟨⟨b0, b1, b3, b4⟩, bf, bw, bl, bo⟩, bp, bsg⟩ := hb
  have hc : (0 ≤ f ∧ f < 9) = True := eq_true (by omega)
  have hl : (0 ≤ S 60 ∧ S 60 < 9) = True := eq_true (by omega)
  unfold f_X0_takeIn
  rw [if_neg (by omega), if_neg (by omega)]
  simp only [hc, if_true, bw f.toNat (by omega), hf.2, b3, if_neg (show ¬ 9 ≤ S 60 by omega), sd_s_a (show b ≠ b + 3 by omega), sd_s_a (show b ≠ b + 6 by omega), hl]
  rw [sd_wid (z := S 60 + 1) (by omega) (by omega)]
  have t : ∀ i, i ≠ 60 → i ≠ 89 + (S 60).toNat → i ≠ 71 + f.toNat → ms_tk S f i = S i := fun i x y z => by rw [ms_tk_e, if_neg x, if_neg y, if_neg z]
  refine ms_t_b (cl_sign (S := ms_tk S f) (ms_tk_ok h hf) ?_ ?_) (fun r N hN => ms_t_r ⟨hN.1, ?_⟩)
  · refine ⟨⟨?_, ?_, ?_, ?_⟩, fun g hg => ?_, fun g hg => ?_, fun k hk => ?_, fun k hk => ?_⟩
    · rw [sd_s_j (by omega), sd_s_a (by omega), sd_s_a (by omega), b0, t 59 (by omega) (by omega) (by omega)]
    · rw [sd_s_j (by omega), sd_s_a (by omega), sd_s_a (by omega), b1, t 58 (by omega) (by omega) (by omega)]
    · rw [sd_s_at, ms_tk_e, if_pos rfl]
    · rw [sd_s_j (by omega), sd_s_a (by omega), sd_s_a (by omega), b4, t 61 (by omega) (by omega) (by omega)]
    · rw [t 2 (by omega) (by omega) (by omega)] at hg
      rw [sd_s_a (by omega), sd_s_a (by omega), sd_s_a (by omega), sd_s_a (by omega), sd_s_a (by omega), sd_s_a (by omega), sd_s_a (by omega), sd_s_a (by omega), sd_s_a (by omega), t (62 + g) (by omega) (by omega) (by omega), t (13 + g) (by omega) (by omega) (by omega), t (80 + g) (by omega) (by omega) (by omega)]
      exact bf g hg
    · rw [sd_s_a (by omega), sd_s_a (by omega)]
      by_cases c : g = f.toNat
      · subst c
        rw [sd_s_at, ms_tk_e, if_neg (by omega), if_neg (by omega), if_pos rfl]
      · rw [sd_s_j c, bw g hg, t _ (by omega) (by omega) (by omega)]
    · rw [ms_tk_e, if_pos rfl] at hk
      rw [sd_s_a (by omega)]
      by_cases c : k = (S 60).toNat
      · subst c
        rw [sd_s_at, ms_tk_e, if_neg (by omega), if_pos rfl]
      · rw [sd_s_j c, sd_s_a (by omega), bl k (by omega), t _ (by omega) (by omega) (by omega)]
    · rw [t 61 (by omega) (by omega) (by omega)] at hk
      rw [sd_s_a (by omega), sd_s_a (by omega), sd_s_a (by omega), bo k hk, t _ (by omega) (by omega) (by omega)]
  · intro g hg hne
    rw [sd_s_a (by omega), sd_s_a (by omega), sd_s_a (by omega), bsg g hg]
    refine ms_sg_0 (fun x => hne ?_)
    rw [ms_tk_e, if_neg (by omega), if_neg (by omega)]
    split
    · rfl
    · exact x
  · intro x hx
    dsimp only
    rw [hN.2 x (by omega) (by omega), sd_s_a (by omega), sd_s_a (by omega), sd_s_a (by omega)]
theorem ms_ok_59 {S : Nat → Int} (h : ms_ok S) {v : Int} (hv : 1 ≤ v ∧ v ≤ 999) : ms_ok (ms_u S 59 v) :=
  ms_ok_g h (ms_tl_c (fun i hi => ms_u_ne (by omega)) h.1) (ms_u_ne (by omega)) (by rw [ms_u_at]; omega) (fun f hf => by
    rw [ms_u_ne (by omega), ms_u_ne (by omega)]
    exact ⟨(h.2.2.2.1 f hf).1, (h.2.2.2.1 f hf).2.2⟩) (fun i hi => ms_u_ne (by omega))
theorem cl_reorder {M : sd_M} {b : Nat} {S : Nat → Int} (h : ms_ok S) (hb : cl_bk M b S) {v : Int} (hv : 1 ≤ v ∧ v ≤ 999) : ms_T (f_X0_reorder b v M) (fun _ N => cl_bk N b (ms_u S 59 v) ∧ cl_fr M N b) := by
  have e : ∀ i, i ≠ 59 → ms_u S 59 v i = S i := fun i hi => ms_u_ne hi
  obtain ⟨⟨⟨b0, b1, b3, b4⟩, bf, bw, bl, bo⟩, bp, bsg⟩ := hb
  unfold f_X0_reorder
  refine ms_t_b (cl_sign (S := ms_u S 59 v) (ms_ok_59 h hv) ?_ ?_) (fun r N hN => ms_t_r ⟨hN.1, ?_⟩)
  · refine ⟨⟨?_, ?_, ?_, ?_⟩, fun f hf => ?_, fun f hf => ?_, fun k hk => ?_, fun k hk => ?_⟩
    · rw [sd_s_at, ms_u_at]
    · rw [sd_s_j (by omega), e 58 (by omega)]; exact b1
    · rw [sd_s_j (by omega), e 60 (by omega)]; exact b3
    · rw [sd_s_j (by omega), e 61 (by omega)]; exact b4
    · rw [e 2 (by omega)] at hf
      rw [sd_s_a (by omega), sd_s_a (by omega), sd_s_a (by omega), e (62 + f) (by omega), e (13 + f) (by have := (ms_lines h).2.2.1; omega), e (80 + f) (by omega)]
      exact bf f hf
    · rw [sd_s_a (by omega), e (71 + f) (by omega)]; exact bw f hf
    · rw [e 60 (by omega)] at hk
      rw [sd_s_a (by omega), e (89 + k) (by omega)]; exact bl k hk
    · rw [e 61 (by omega)] at hk
      rw [sd_s_a (by omega), e (98 + k) (by omega)]; exact bo k hk
  · intro f hf hne
    rw [e _ (by omega)] at hne
    rw [sd_s_a (by omega), bsg f hf, ms_sg_0 hne]
  · intro x hx
    dsimp only
    rw [hN.2 x (by omega) (by omega), sd_s_a (by omega)]
theorem ms_ok_62 {S : Nat → Int} (h : ms_ok S) {v : Int} (hv : 1 ≤ v ∧ v ≤ 999) {f : Nat} (hf : f < 9) : ms_ok (ms_u S (62 + f) v) :=
  ms_ok_g h (ms_tl_c (fun i hi => ms_u_ne (by omega)) h.1) (ms_u_ne (by omega)) (by rw [ms_u_ne (by omega), ms_u_ne (by omega)]; exact h.2.2.1) (fun g hg => by
    have a := h.2.2.2.1 g hg
    have l := ms_lines h
    rw [ms_u_ne (show 80 + g ≠ 62 + f by omega)]
    refine ⟨?_, a.2.2⟩
    by_cases c : g = f
    · subst c; rw [ms_u_at]; exact hv
    · rw [ms_u_ne (by omega)]; exact a.1) (fun i hi => ms_u_ne (by omega))
theorem cl_rewrite {M : sd_M} {b : Nat} {S : Nat → Int} (h : ms_ok S) (hb : cl_bk M b S) {v : Int} (hv : 1 ≤ v ∧ v ≤ 999) {f : Int} (hf : 0 ≤ f ∧ f < S 2) : ms_T (f_X0_rewrite b f v M) (fun _ N => cl_bk N b (ms_u S (62 + f.toNat) v) ∧ cl_fr M N b) := by
  have l := ms_lines h
  have e : ∀ i, i ≠ 62 + f.toNat → ms_u S (62 + f.toNat) v i = S i := fun i hi => ms_u_ne hi
  obtain ⟨⟨⟨b0, b1, b3, b4⟩, bf, bw, bl, bo⟩, bp, bsg⟩ := hb
  unfold f_X0_rewrite
  rw [if_neg (by omega), if_neg (by omega), if_pos (by omega)]
  refine ms_t_b (cl_sign (S := ms_u S (62 + f.toNat) v) (ms_ok_62 h hv (by omega)) ?_ ?_) (fun r N hN => ms_t_r ⟨hN.1, ?_⟩)
  · refine ⟨⟨?_, ?_, ?_, ?_⟩, fun g hg => ?_, fun g hg => ?_, fun k hk => ?_, fun k hk => ?_⟩
    · rw [sd_s_a (by omega), e 59 (by omega)]; exact b0
    · rw [sd_s_a (by omega), e 58 (by omega)]; exact b1
    · rw [sd_s_a (by omega), e 60 (by omega)]; exact b3
    · rw [sd_s_a (by omega), e 61 (by omega)]; exact b4
    · rw [e 2 (by omega)] at hg
      have q := bf g hg
      rw [sd_s_a (show b + 2 ≠ b + 1 by omega), sd_s_a (show b + 5 ≠ b + 1 by omega), e (13 + g) (by omega), e (80 + g) (by omega)]
      refine ⟨?_, q.2⟩
      by_cases c : g = f.toNat
      · subst c; rw [sd_s_at, ms_u_at]
      · rw [sd_s_j c, e _ (by omega)]; exact q.1
    · rw [sd_s_a (by omega), e (71 + g) (by omega)]; exact bw g hg
    · rw [e 60 (by omega)] at hk
      rw [sd_s_a (by omega), e (89 + k) (by omega)]; exact bl k hk
    · rw [e 61 (by omega)] at hk
      rw [sd_s_a (by omega), e (98 + k) (by omega)]; exact bo k hk
  · intro g hg hne
    rw [e _ (by omega)] at hne
    rw [sd_s_a (by omega), bsg g hg, ms_sg_0 hne]
  · intro x hx
    dsimp only
    rw [hN.2 x (by omega) (by omega), sd_s_a (by omega)]
/-- one is cancelled -/
def ms_ca (S : Nat → Int) (f : Int) : Nat → Int := ms_st (ms_go S (ms_po S f) f)
theorem ms_ca_ok {S : Nat → Int} (h : ms_ok S) {f : Int} (hf : (0 ≤ f ∧ f < S 2) ∧ S (71 + f.toNat) = 1) : ms_ok (ms_ca S f) := by
  have p := ms_po_l h hf
  have g := ms_go_ok h p.1
  rw [p.2] at g
  exact ms_st_ok g
theorem cl_strike {M : sd_M} {b : Nat} {S : Nat → Int} (h66 : 66 ≤ b) (h : ms_ok S) (hb : cl_bk M b S) (ht : cl_tn M S) {f : Int} (hf : (0 ≤ f ∧ f < S 2) ∧ S (71 + f.toNat) = 1) : ms_T (f_X0_strike b f M) (fun r N => r = ms_ca S f 61 - S 61 ∧ cl_bk N b (ms_ca S f) ∧ cl_fr M N b) := by
  have l := ms_lines h
  have p := ms_po_l h hf
  have lv := cl_leave h hb p.1
  have g := ms_go_ok h p.1
  rw [p.2] at lv g
  unfold f_X0_strike
  refine ms_t_b lv (fun r N hN => ?_)
  simp only []
  have tn : cl_tn N (ms_go S (ms_po S f) f) := ms_go_tn h p.1 ht (fun x h1 h2 => hN.2 x (by omega))
  refine ms_t_b (cl_settle h66 g hN.1 tn) (fun r K hK => ms_t_r ⟨?_, hK.2.1, cl_fr_tr hN.2 hK.2.2⟩)
  have l2 := ms_lines (ms_ca_ok h hf)
  simp only []
  rw [hK.2.1.1.1.2.2.2, hb.1.1.2.2.2]
  exact sd_wid (by unfold ms_ca at l2; omega) (by unfold ms_ca at l2; omega)
