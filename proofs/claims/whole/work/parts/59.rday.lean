/-! the reference: a day passes -/
def ms_ws (S : Nat → Int) (f : Int) : Nat → Int := fun j => if j = 0 then f else if j = 1 then S (62 + f.toNat) else if j = 2 then S (13 + f.toNat) else if j = 3 then ms_nf S f (S 3).toNat else if j = 4 then S 60 else if j = 5 then ms_pl S else if j = 6 then S 59 else if j = 7 then ms_sh S else if j = 8 then ms_pp (ms_on S 0) else if j = 9 then S 61 else S 58
theorem ms_ru_c {P V ws wt : Nat → Int} (h : ∀ j, j < 11 → ws j = wt j) : ∀ (m i : Nat) (t t2 : List Bool) (s : List Int), ms_tr P V m i t = some t2 → ms_vt t s → ms_ru P V ws m i s = ms_ru P V wt m i s
  | 0, _, _, _, _, _, _ => rfl
  | m + 1, i, t, t2, s, ht, hv => by
    obtain ⟨t1, h1, h2⟩ := ms_tr_s ht
    have e : ms_e1 (P i) (V i) ws s = ms_e1 (P i) (V i) wt s := by
      rcases ms_t1_c h1 hv with ⟨a1, a2, a3⟩ | ⟨a1, q, x, s2, a2, a3, a4, hx, hr2⟩ | ⟨a1, b, d, q, x, y, s2, a2, a3, a4, hr2, hb, h12⟩
      · rcases a3 with ⟨a3, a4⟩ | ⟨a3, a4⟩
        · rw [a3]; rfl
        · rw [a3]
          show ws (V i).toNat :: s = wt (V i).toNat :: s
          rw [h _ (by omega)]
      · rw [a1]; rfl
      · unfold ms_e1
        rw [if_neg (by omega), if_neg (by omega), if_neg (by omega), if_neg (by omega), if_neg (by omega)]
    rw [ms_ru, ms_ru, e]
    exact ms_ru_c h m (i + 1) t1 t2 _ h2 (ms_e1_t h1 hv wt)
theorem ms_rv_c {P V ws wt : Nat → Int} (h : ∀ j, j < 11 → ws j = wt j) {a b : Nat} {k : Bool} (ht : ms_tr P V (b - a) a [] = some [k]) : ms_rv P V ws a b = ms_rv P V wt a b := by
  unfold ms_rv
  rw [ms_ru_c h _ _ _ _ _ ht (show ms_vt [] [] from trivial)]
theorem ms_wo_c {M : sd_M} {r n mm : Nat} {P V A B D ws wt : Nat → Int} (hl : rf_cl M r n mm P V A B D) (h : ∀ j, j < 11 → ws j = wt j) : ∀ m c, c + m = mm → ms_wo P V A B D ws m c = ms_wo P V A B D wt m c
  | 0, _, _ => rfl
  | m + 1, c, hc => by
    obtain ⟨b1, b2, b6, b7⟩ := hl.2 c (by omega)
    rw [ms_wo, ms_wo, ms_rv_c h b6, ms_wo_c hl h m (c + 1) (by omega)]
    by_cases d : B c = D c
    · rw [if_pos d, if_pos d]
    · rw [if_neg d, if_neg d, ms_rv_c h (b7.resolve_left d)]
def rf_j (M N : sd_M) : Prop := (∀ a, a ≠ 331 → a ≠ 339 → a ≠ 340 → N a = M a) ∧ ∀ j, j ≠ 18 → N 331 j = M 331 j
theorem rf_j_rf {M : sd_M} : rf_j M M := ⟨fun _ _ _ _ => rfl, fun _ _ => rfl⟩
theorem rf_j_tr {M N K : sd_M} (h : rf_j M N) (g : rf_j N K) : rf_j M K := ⟨fun a x y z => (g.1 a x y z).trans (h.1 a x y z), fun j x => (g.2 j x).trans (h.2 j x)⟩
theorem rf_j_k {M N : sd_M} (h : rf_k M N) : rf_j M N := ⟨fun a x y _ => h.1 a x y, h.2⟩
theorem rf_j_s {M : sd_M} {i : Nat} {v : Int} : rf_j M (sd_s M 340 i v) := ⟨fun a _ _ z => sd_s_a z, fun j _ => by rw [sd_s_a (by omega)]⟩
theorem rf_sumOf {M : sd_M} (h : ms_ok (M 341)) {f : Int} (hf : 0 ≤ f ∧ f < M 341 2) {r n mm : Nat} {P V A B D : Nat → Int} (hr : r < 6) (he : M 331 21 = r) (hc : rf_cd M r n P V) (hl : rf_cl M r n mm P V A B D) : ms_T (f_X10_sumOf f M) (fun v N => v = ms_wo P V A B D (ms_ws (M 341) f) mm 0 ∧ rf_j M N) := by
  have l := ms_lines h
  have b := ms_bt_lt (p := ms_at (M 341) 0) 9
  unfold f_X10_sumOf
  rw [sd_wid (z := 62 + f) (by omega) (by omega), sd_wid (z := 13 + f) (by omega) (by omega), if_pos (by omega), if_pos (by omega), sd_tn62 hf.1, sd_tn13 hf.1]
  simp only [sd_s_a (show (341 : Nat) ≠ 340 by omega)]
  have o1 : rf_j M (sd_s (sd_s (sd_s M 340 0 f) 340 1 (M 341 (62 + f.toNat))) 340 2 (M 341 (13 + f.toNat))) := rf_j_tr (rf_j_tr rf_j_s rf_j_s) rf_j_s
  have v0 : (sd_s (sd_s (sd_s M 340 0 f) 340 1 (M 341 (62 + f.toNat))) 340 2 (M 341 (13 + f.toNat))) 340 0 = f := by rw [sd_s_j (by omega), sd_s_j (by omega), sd_s_at]
  have v1 : (sd_s (sd_s (sd_s M 340 0 f) 340 1 (M 341 (62 + f.toNat))) 340 2 (M 341 (13 + f.toNat))) 340 1 = M 341 (62 + f.toNat) := by rw [sd_s_j (by omega), sd_s_at]
  have v2 : (sd_s (sd_s (sd_s M 340 0 f) 340 1 (M 341 (62 + f.toNat))) 340 2 (M 341 (13 + f.toNat))) 340 2 = M 341 (13 + f.toNat) := sd_s_at
  generalize sd_s (sd_s (sd_s M 340 0 f) 340 1 (M 341 (62 + f.toNat))) 340 2 (M 341 (13 + f.toNat)) = K1 at o1 v0 v1 v2
  have e1 : K1 341 = M 341 := o1.1 341 (by omega) (by omega) (by omega)
  rw [rf_needsOf (M := K1) (by rw [e1]; exact h), Option.bind_some, e1]
  simp only [sd_s_a (show (341 : Nat) ≠ 340 by omega), e1]
  rw [rf_placed (by simp only [sd_s_a (show (341 : Nat) ≠ 340 by omega), e1]; exact h), Option.bind_some]
  simp only [sd_s_a (show (341 : Nat) ≠ 340 by omega), e1]
  rw [rf_shortNow (by simp only [sd_s_a (show (341 : Nat) ≠ 340 by omega), e1]; exact h), Option.bind_some]
  simp only [sd_s_a (show (341 : Nat) ≠ 340 by omega), e1]
  rw [rf_onesAt (by simp only [sd_s_a (show (341 : Nat) ≠ 340 by omega), e1]; exact h), Option.bind_some]
  simp only [sd_s_a (show (341 : Nat) ≠ 340 by omega), e1]
  rw [rf_bits (by unfold ms_on; omega), Option.bind_some]
  simp only [sd_s_a (show (341 : Nat) ≠ 340 by omega), e1]
  have o2 : rf_j K1 (sd_s (sd_s (sd_s (sd_s (sd_s (sd_s (sd_s (sd_s K1 340 3 (ms_nf (M 341) f (M 341 3).toNat)) 340 4 (M 341 60)) 340 5 (ms_pl (M 341))) 340 6 (M 341 59)) 340 7 (ms_sh (M 341))) 340 8 (ms_pp (ms_on (M 341) 0))) 340 9 (M 341 61)) 340 10 (M 341 58)) := rf_j_tr (rf_j_tr (rf_j_tr (rf_j_tr (rf_j_tr (rf_j_tr (rf_j_tr rf_j_s rf_j_s) rf_j_s) rf_j_s) rf_j_s) rf_j_s) rf_j_s) rf_j_s
  have vs : ∀ j, j < 11 → (sd_s (sd_s (sd_s (sd_s (sd_s (sd_s (sd_s (sd_s K1 340 3 (ms_nf (M 341) f (M 341 3).toNat)) 340 4 (M 341 60)) 340 5 (ms_pl (M 341))) 340 6 (M 341 59)) 340 7 (ms_sh (M 341))) 340 8 (ms_pp (ms_on (M 341) 0))) 340 9 (M 341 61)) 340 10 (M 341 58)) 340 j = ms_ws (M 341) f j := by
    intro j hj
    match j, hj with
    | 0, _ => simp only [sd_s, ms_ws]; exact v0
    | 1, _ => simp only [sd_s, ms_ws]; exact v1
    | 2, _ => simp only [sd_s, ms_ws]; exact v2
    | 3, _ => rfl
    | 4, _ => rfl
    | 5, _ => rfl
    | 6, _ => rfl
    | 7, _ => rfl
    | 8, _ => rfl
    | 9, _ => rfl
    | 10, _ => rfl
  generalize (sd_s (sd_s (sd_s (sd_s (sd_s (sd_s (sd_s (sd_s K1 340 3 (ms_nf (M 341) f (M 341 3).toNat)) 340 4 (M 341 60)) 340 5 (ms_pl (M 341))) 340 6 (M 341 59)) 340 7 (ms_sh (M 341))) 340 8 (ms_pp (ms_on (M 341) 0))) 340 9 (M 341 61)) 340 10 (M 341 58)) = K2 at o2 vs
  have o := rf_j_tr o1 o2
  rw [o.2 21 (by omega), he]
  have hc2 : rf_cd K2 r n P V := rf_cd_k hc (o.1 333 (by omega) (by omega) (by omega))
  have hl2 : rf_cl K2 r n mm P V A B D := by
    unfold rf_cl
    rw [o.1 336 (by omega) (by omega) (by omega), o.1 335 (by omega) (by omega) (by omega)]
    exact hl
  refine ms_t_b (rf_summedBy hr hc2 hl2) (fun v N hN => ?_)
  exact ms_t_r ⟨by rw [hN.1, ms_wo_c hl vs mm 0 (by omega)], rf_j_tr o (rf_j_k hN.2)⟩
/-- which one is taken -/
def ms_ck (S : Nat → Int) (W : (Nat → Int) → Int → Int) : Nat → Int × Int
  | 0 => (-1, 0)
  | f + 1 => if S (71 + f) = 0 ∧ (ms_ck S W f).2 < W S f then ((f : Int), W S f) else ms_ck S W f
def ms_ch (S : Nat → Int) (W : (Nat → Int) → Int → Int) : Int := (ms_ck S W (S 2).toNat).1
/-- what the rule in force gives -/
def rf_W (M : sd_M) (z : Int) (W : (Nat → Int) → Int → Int) : Prop := (z < 0 ∧ W = fun _ _ => 1) ∨ ∃ (r n mm : Nat) (P V A B D : Nat → Int), z = r ∧ r < 6 ∧ rf_cd M r n P V ∧ rf_cl M r n mm P V A B D ∧ W = fun S f => ms_wo P V A B D (ms_ws S f) mm 0
theorem rf_W_c {M N : sd_M} {z : Int} {W : (Nat → Int) → Int → Int} (h : rf_W M z W) (e3 : N 333 = M 333) (e5 : N 335 = M 335) (e6 : N 336 = M 336) : rf_W N z W := by
  rcases h with h | ⟨r, n, mm, P, V, A, B, D, h1, h2, h3, h4, h5⟩
  · exact Or.inl h
  · refine Or.inr ⟨r, n, mm, P, V, A, B, D, h1, h2, rf_cd_k h3 e3, ?_, h5⟩
    unfold rf_cl
    rw [e6, e5]
    exact h4
theorem rf_choice_l {M0 : sd_M} (h : ms_ok (M0 341)) {W : (Nat → Int) → Int → Int} (hW : rf_W M0 (M0 331 21) W) : ∀ (m k fu : Nat) (M : sd_M), (k : Int) + m = M0 341 2 → m < fu → rf_j M0 M → ms_T (f_X10_choice_7 fu (ms_ck (M0 341) W k).1 (ms_ck (M0 341) W k).2 (k : Int) M) (fun v N => v = ms_ch (M0 341) W ∧ rf_j M0 N) := by
  have l := ms_lines h
  intro m
  induction m with
  | zero =>
    intro k fu M hk hf hM
    obtain ⟨fu, rfl⟩ : ∃ g, fu = g + 1 := ⟨fu - 1, by omega⟩
    rw [f_X10_choice_7, hM.1 341 (by omega) (by omega) (by omega), if_pos (by omega)]
    exact ms_t_r ⟨by rw [ms_ch, show (M0 341 2).toNat = k by omega], hM⟩
  | succ m ih =>
    intro k fu M hk hf hM
    obtain ⟨fu, rfl⟩ : ∃ g, fu = g + 1 := ⟨fu - 1, by omega⟩
    have e := hM.1 341 (by omega) (by omega) (by omega)
    have up := fun N => ih (k + 1) fu N
    push_cast at up
    rw [ms_ck] at up
    rw [f_X10_choice_7, e, if_neg (by omega), rf_isWaiting (by rw [e]; exact h), Option.bind_some, e, Int.toNat_natCast]
    simp only []
    by_cases w : M0 341 (71 + k) = 0
    · have go : ∀ (v : Int) (N : sd_M), v = W (M0 341) k → rf_j M0 N → ms_T (f_X10_choice_47 (f_X10_choice_7 fu) (ms_ck (M0 341) W k).1 (ms_ck (M0 341) W k).2 (k : Int) v N) (fun v N => v = ms_ch (M0 341) W ∧ rf_j M0 N) := by
        intro v N hv hN
        have u := up N (by omega) (by omega) hN
        have cm := ms_cmp (x := v) (y := (ms_ck (M0 341) W k).2)
        rw [f_X10_choice_47, f_X10_choice_65, f_X10_choice_65, sd_wid (by omega) (by omega)]
        by_cases d : (ms_ck (M0 341) W k).2 < v
        · rw [if_pos (by omega)]
          rw [if_pos ⟨w, by rw [← hv]; exact d⟩, ← hv] at u
          exact u
        · rw [if_neg (by omega)]
          rw [if_neg (fun x => d (by rw [hv]; exact x.2))] at u
          exact u
      rw [if_pos (show (0 ≤ (k : Int) ∧ (k : Int) < M0 341 2) ∧ M0 341 (71 + k) = 0 from ⟨by omega, w⟩), if_neg (show ¬ ((1 : Int) = 0) by omega), hM.2 21 (by omega)]
      rcases hW with ⟨h1, h2⟩ | ⟨r, n, mm, P, V, A, B, D, h1, h2, h3, h4, h5⟩
      · rw [if_neg (by omega)]
        exact go 1 M (by rw [h2]) hM
      · rw [if_pos (by omega)]
        have hl2 : rf_cl M r n mm P V A B D := by
          unfold rf_cl
          rw [hM.1 336 (by omega) (by omega) (by omega), hM.1 335 (by omega) (by omega) (by omega)]
          exact h4
        refine ms_t_b (rf_sumOf (M := M) (by rw [e]; exact h) (by rw [e]; omega) h2 (by rw [hM.2 21 (by omega), h1]) (rf_cd_k h3 (hM.1 333 (by omega) (by omega) (by omega))) hl2) (fun v N hN => ?_)
        exact go v N (by rw [hN.1, e, h5]) (rf_j_tr hM hN.2)
    · rw [if_neg (show ¬ ((0 ≤ (k : Int) ∧ (k : Int) < M0 341 2) ∧ M0 341 (71 + k) = 0) from fun x => w x.2), if_pos rfl, f_X10_choice_65, sd_wid (by omega) (by omega)]
      have u := up M (by omega) (by omega) hM
      rw [if_neg (fun x => w x.1)] at u
      exact u
theorem rf_choice {M : sd_M} (h : ms_ok (M 341)) {W : (Nat → Int) → Int → Int} (hW : rf_W M (M 331 21) W) : ms_T (f_X10_choice M) (fun v N => v = ms_ch (M 341) W ∧ rf_j M N) := by
  have l := ms_lines h
  exact rf_choice_l h hW (M 341 2).toNat 0 4000 M (by omega) (by omega) rf_j_rf
theorem ms_ck_b {S : Nat → Int} {W : (Nat → Int) → Int → Int} : ∀ n, (ms_ck S W n).1 = -1 ∨ ∃ f : Nat, f < n ∧ (ms_ck S W n).1 = f ∧ S (71 + f) = 0
  | 0 => Or.inl rfl
  | n + 1 => by
    rw [ms_ck]
    split
    · rename_i hc
      exact Or.inr ⟨n, by omega, rfl, hc.1⟩
    · rcases ms_ck_b (S := S) (W := W) n with a | ⟨f, a, b⟩
      · exact Or.inl a
      · exact Or.inr ⟨f, by omega, b⟩
theorem ms_ch_b {S : Nat → Int} (h : ms_ok S) {W : (Nat → Int) → Int → Int} : ms_ch S W = -1 ∨ ((0 ≤ ms_ch S W ∧ ms_ch S W < S 2) ∧ S (71 + (ms_ch S W).toNat) = 0) := by
  have l := ms_lines h
  unfold ms_ch
  rcases ms_ck_b (S := S) (W := W) (S 2).toNat with a | ⟨f, a, b, c⟩
  · exact Or.inl a
  · rw [b]
    exact Or.inr ⟨by omega, by rw [Int.toNat_natCast]; exact c⟩
/-- a day -/
def ms_pa (W : (Nat → Int) → Int → Int) (S : Nat → Int) : Nat → Int := if ms_ch S W < 0 then ms_st S else ms_st (ms_tk S (ms_ch S W))
def ms_ps (W : (Nat → Int) → Int → Int) (S : Nat → Int) : Nat → Int := ms_u (ms_pa W S) 58 (ms_pa W S 58 + 1)
/-- what a day of the reference may change -/
def rf_d (M N : sd_M) : Prop := (∀ a, a ≠ 331 → a ≠ 339 → a ≠ 340 → a ≠ 341 → a ≠ 342 → a ≠ 343 → a ≠ 344 → N a = M a) ∧ ∀ j, j ≠ 18 → N 331 j = M 331 j
theorem rf_d_rf {M : sd_M} : rf_d M M := ⟨fun _ _ _ _ _ _ _ _ => rfl, fun _ _ => rfl⟩
theorem rf_d_tr {M N K : sd_M} (h : rf_d M N) (g : rf_d N K) : rf_d M K := ⟨fun a t u v w x y z => (g.1 a t u v w x y z).trans (h.1 a t u v w x y z), fun j x => (g.2 j x).trans (h.2 j x)⟩
theorem rf_d_j {M N : sd_M} (h : rf_j M N) : rf_d M N := ⟨fun a t u v _ _ _ _ => h.1 a t u v, h.2⟩
theorem rf_d_g {M N : sd_M} (h : rf_g M N) : rf_d M N := ⟨fun a _ _ _ w x y z => h a w x y z, fun j _ => by rw [h 331 (by omega) (by omega) (by omega) (by omega)]⟩
theorem rf_d_1 {M : sd_M} {i : Nat} {v : Int} : rf_d M (sd_s M 341 i v) := rf_d_g (rf_g_1 (fun _ ha => sd_s_a ha))
theorem ms_se_58 : ∀ (q : Nat) {S : Nat → Int}, ms_ok S → ∀ i, i < 60 → ms_se q S i = S i
  | 0, _, _, _, _ => rfl
  | q + 1, S, h, i, hi => by
    rw [ms_se]
    split
    · rename_i hc
      rw [ms_se_58 q (ms_go_ok h hc) i hi]
      exact ms_go_lo (by omega) hi
    · rfl
theorem ms_tk_lo {S : Nat → Int} {f : Int} {i : Nat} (hi : i < 60) : ms_tk S f i = S i := by
  unfold ms_tk
  rw [ms_u_ne (by omega), ms_u_ne (by omega), ms_u_ne (by omega)]
theorem ms_pa_ok {W : (Nat → Int) → Int → Int} {S : Nat → Int} (h : ms_ok S) : ms_ok (ms_pa W S) ∧ ∀ i, i < 60 → ms_pa W S i = S i := by
  unfold ms_pa
  rcases ms_ch_b h (W := W) with a | a
  · rw [if_pos (by omega)]
    exact ⟨ms_st_ok h, ms_se_58 9 h⟩
  · rw [if_neg (by omega)]
    have ok := ms_tk_ok h a
    exact ⟨ms_st_ok ok, fun i hi => (ms_se_58 9 ok i hi).trans (ms_tk_lo hi)⟩
/-- the day's number is free -/
theorem ms_ok_58 {S : Nat → Int} (h : ms_ok S) (v : Int) : ms_ok (ms_u S 58 v) := by
  have e : ∀ i, i ≠ 58 → ms_u S 58 v i = S i := fun i hi => ms_u_ne hi
  have cw : ms_cw (ms_u S 58 v) (S 2).toNat = ms_cw S (S 2).toNat := ms_cw_c _ (fun i hi => by rw [e _ (by omega)])
  obtain ⟨t, h1, h2, h3, h4, h5, h6, h7⟩ := h
  refine ⟨ms_tl_c (fun i hi => e i (by omega)) t, ?_, ?_, ?_, ?_, ?_, ?_, ?_⟩
  · rw [e 2 (by omega), cw, e 60 (by omega), e 61 (by omega)]; exact h1
  · rw [e 59 (by omega), e 0 (by omega)]; exact h2
  · intro f hf
    rw [e 2 (by omega)] at hf
    rw [e (62 + f) (by omega), e (71 + f) (by omega), e (80 + f) (by omega)]
    exact h3 f hf
  · intro f hf
    rw [e 2 (by omega)] at hf
    rw [e (71 + f) (by omega)]
    exact h4 f hf
  · intro k hk
    rw [e 60 (by omega)] at hk
    rw [e (89 + k) (by omega), e 2 (by omega), e _ (by omega)]
    exact h5 k hk
  · intro j k hj hk
    rw [e 60 (by omega)] at hj hk
    rw [e (89 + k) (by omega), e (89 + j) (by omega)]
    exact h6 j k hj hk
  · intro f hf
    rw [e 2 (by omega)] at hf
    rw [e (71 + f) (by omega)]
    intro x
    obtain ⟨k, hk, ek⟩ := h7 f hf x
    exact ⟨k, by rw [e 60 (by omega)]; exact hk, by rw [e (89 + k) (by omega)]; exact ek⟩
theorem ms_ps_ok {W : (Nat → Int) → Int → Int} {S : Nat → Int} (h : ms_ok S) : ms_ok (ms_ps W S) := ms_ok_58 (ms_pa_ok h).1 _
theorem ms_ps_58 {W : (Nat → Int) → Int → Int} {S : Nat → Int} (h : ms_ok S) : ms_ps W S 58 = S 58 + 1 := by
  unfold ms_ps
  rw [ms_u_at, (ms_pa_ok h).2 58 (by omega)]
theorem ms_ps_lo {W : (Nat → Int) → Int → Int} {S : Nat → Int} (h : ms_ok S) {i : Nat} (hi : i < 58 ∨ i = 59) : ms_ps W S i = S i := by
  unfold ms_ps
  rw [ms_u_ne (by omega), (ms_pa_ok h).2 i (by omega)]
theorem rf_passes {M : sd_M} (h : ms_ok (M 341)) (hd : 0 ≤ M 341 58 ∧ M 341 58 < 100000) {W : (Nat → Int) → Int → Int} (hW : rf_W M (M 331 21) W) : ms_T (f_X10_passes M) (fun v N => v = ms_ch (M 341) W ∧ N 341 = ms_ps W (M 341) ∧ rf_d M N) := by
  unfold f_X10_passes
  refine ms_t_b (rf_choice h hW) (fun v N hN => ?_)
  have e : N 341 = M 341 := hN.2.1 341 (by omega) (by omega) (by omega)
  have fin : ∀ K : sd_M, ms_ok (K 341) → ms_st (K 341) = ms_pa W (M 341) → rf_d M K → ms_T (f_X10_passes_14 v K) (fun v N => v = ms_ch (M 341) W ∧ N 341 = ms_ps W (M 341) ∧ rf_d M N) := by
    intro K k1 k2 k3
    unfold f_X10_passes_14
    refine ms_t_b (rf_settlesAll k1) (fun r L hL => ?_)
    simp only []
    have q := (ms_pa_ok h (W := W)).2 58 (by omega)
    rw [hL.1, k2, sd_wid (by omega) (by omega)]
    refine ms_t_r ⟨hN.1, ?_, rf_d_tr k3 (rf_d_tr (rf_d_g hL.2) rf_d_1)⟩
    rw [sd_s_row, hL.1, k2]
    rfl
  simp only []
  rcases ms_ch_b h (W := W) with a | a
  · rw [if_pos (by rw [hN.1]; omega)]
    refine fin N (by rw [e]; exact h) ?_ (rf_d_j hN.2)
    rw [e, ms_pa, if_pos (by omega)]
  · rw [if_neg (by rw [hN.1]; omega)]
    refine ms_t_b (rf_takes (M := N) (by rw [e]; exact h) (by rw [e, hN.1]; exact a)) (fun r K hK => ?_)
    refine fin K ?_ ?_ (rf_d_tr (rf_d_j hN.2) (rf_d_g (rf_g_1 hK.2)))
    · rw [hK.1, e, hN.1]
      exact ms_tk_ok h a
    · rw [hK.1, e, hN.1, ms_pa, if_neg (by omega)]
