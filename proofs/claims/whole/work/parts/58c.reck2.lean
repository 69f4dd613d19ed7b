/-! the reference reckons a rule's steps -/
/-- a rule's steps lie in the reference's row -/
def rf_cd (M : sd_M) (r n : Nat) (P V : Nat → Int) : Prop := n ≤ 400 ∧ ∀ i, i < n → M 333 (400 * r + i) = ms_gi (P i) + 16 * V i ∧ (0 ≤ P i ∧ P i ≤ 14) ∧ (0 ≤ V i ∧ V i ≤ 99999)
theorem ms_gi_b {c : Int} (h : 0 ≤ c ∧ c ≤ 14) : 0 ≤ ms_gi c ∧ ms_gi c < 16 := by
  unfold ms_gi
  repeat' split
  all_goals omega
theorem ms_tr_s {P V : Nat → Int} {m i : Nat} {t t2 : List Bool} (h : ms_tr P V (m + 1) i t = some t2) : ∃ t1, ms_t1 (P i) (V i) t = some t1 ∧ ms_tr P V m (i + 1) t1 = some t2 := by
  rw [ms_tr] at h
  cases e : ms_t1 (P i) (V i) t with
  | none => rw [e] at h; exact absurd h (by simp)
  | some t1 => rw [e] at h; exact ⟨t1, rfl, h⟩
theorem ms_t1_l {c v : Int} {t t2 : List Bool} (h : ms_t1 c v t = some t2) (hl : t.length ≤ 60) : t2.length ≤ 60 := by
  unfold ms_t1 at h
  repeat' split at h
  all_goals cases h
  all_goals (simp only [List.length_cons] at *; omega)
theorem rf_reckons_l {M0 : sd_M} {r n to : Nat} {P V : Nat → Int} (hr : r < 6) (hc : rf_cd M0 r n P V) (hto : to ≤ n) (kk : sd_M → Option (Int × sd_M)) : ∀ (m i fu : Nat) (M : sd_M) (t t2 : List Bool) (s : List Int), i + m = to → m < fu → rf_k M0 M → t.length ≤ 60 → ms_tr P V m i t = some t2 → ms_vt t s → rf_st M s → ∃ N, rf_k M0 N ∧ rf_st N (ms_ru P V (M0 340) m i s) ∧ ms_vt t2 (ms_ru P V (M0 340) m i s) ∧ f_X10_reckons_8 kk fu (r : Int) (to : Int) (i : Int) M = kk N := by
  intro m
  induction m with
  | zero =>
    intro i fu M t t2 s hi hf hM hl ht hv hs
    obtain ⟨fu, rfl⟩ : ∃ g, fu = g + 1 := ⟨fu - 1, by omega⟩
    rw [ms_tr] at ht
    injection ht with ht
    subst ht
    exact ⟨M, hM, hs, hv, by rw [f_X10_reckons_8, if_pos (by omega)]⟩
  | succ m ih =>
    intro i fu M t t2 s hi hf hM hl ht hv hs
    obtain ⟨fu, rfl⟩ : ∃ g, fu = g + 1 := ⟨fu - 1, by omega⟩
    obtain ⟨t1, h1, h2⟩ := ms_tr_s ht
    have vl := ms_vt_l hv
    obtain ⟨c1, c2, c3⟩ := hc.2 i (by omega)
    have hn := hc.1
    have g := ms_gi_b c2
    have e333 : M 333 = M0 333 := hM.1 333 (by omega) (by omega)
    have e340 : M 340 = M0 340 := hM.1 340 (by omega) (by omega)
    have up : ∀ N, rf_k M0 N → rf_st N (ms_e1 (P i) (V i) (M0 340) s) → ∃ K, rf_k M0 K ∧ rf_st K (ms_ru P V (M0 340) (m + 1) i s) ∧ ms_vt t2 (ms_ru P V (M0 340) (m + 1) i s) ∧ f_X10_reckons_129 (f_X10_reckons_8 kk fu) kk (r : Int) (to : Int) (i : Int) N = kk K := by
      intro N hN hsN
      obtain ⟨K, k1, k2, k3, k4⟩ := ih (i + 1) fu N t1 t2 _ (by omega) (by omega) hN (ms_t1_l h1 hl) h2 (ms_e1_t h1 hv (M0 340)) hsN
      refine ⟨K, k1, k2, k3, ?_⟩
      rw [f_X10_reckons_129, sd_wid (by omega) (by omega)]
      push_cast at k4
      exact k4
    have s1 : f_X10_reckons_8 kk (fu + 1) (r : Int) (to : Int) (i : Int) M = (if ms_gi (P i) = 0 then ((f_X10_push (V i) M).bind fun r15 => f_X10_reckons_129 (f_X10_reckons_8 kk fu) kk r to i r15.2) else (if ms_gi (P i) = 1 then (if 0 ≤ V i ∧ V i < 11 then ((f_X10_push (M0 340 (V i).toNat) M).bind fun r14 => f_X10_reckons_129 (f_X10_reckons_8 kk fu) kk r to i r14.2) else none) else (if ms_gi (P i) = 11 then ((f_X10_pop M).bind fun r11 => (f_X10_push (sd_wl (1 - r11.1)) r11.2).bind fun r12 => f_X10_reckons_129 (f_X10_reckons_8 kk fu) kk r to i r12.2) else ((f_X10_pop M).bind fun r7 => (f_X10_pop r7.2).bind fun r8 => (f_X10_one (ms_gi (P i)) r8.1 r7.1 r8.2).bind fun r9 => (f_X10_push r9.1 r9.2).bind fun r10 => f_X10_reckons_129 (f_X10_reckons_8 kk fu) kk r to i r10.2)))) := by
      rw [f_X10_reckons_8, if_neg (by omega), sd_wid (z := 400 * (r : Int)) (by omega) (by omega), sd_wid (z := 400 * (r : Int) + (i : Int)) (by omega) (by omega), if_pos (by omega), if_pos (by omega), show (400 * (r : Int) + (i : Int)).toNat = 400 * r + i by omega, e333, c1, ms_and15 g c3, ms_shr4 g c3, e340]
    rw [s1]
    rcases ms_t1_c h1 hv with ⟨a1, a2, a3⟩ | ⟨a1, q, x, s2, a2, a3, a4, hx, hr2⟩ | ⟨a1, b, d, q, x, y, s2, a2, a3, a4, hr2, hb, h12⟩
    · rcases a3 with ⟨a3, a4⟩ | ⟨a3, a4⟩
      · have e0 : ms_gi (P i) = 0 := by rw [a3]; rfl
        have e1 : ms_e1 (P i) (V i) (M0 340) s = V i :: s := by rw [a3]; rfl
        rw [if_pos e0]
        obtain ⟨N, n1, n2, n3⟩ := rf_st_p hs (by omega) (V i)
        rw [n1, Option.bind_some]
        exact up N (rf_k_tr hM n2) (by rw [e1]; exact n3)
      · have e0 : ms_gi (P i) = 1 := by rw [a3]; rfl
        have e1 : ms_e1 (P i) (V i) (M0 340) s = M0 340 (V i).toNat :: s := by rw [a3]; rfl
        rw [if_neg (by omega), if_pos e0, if_pos a4]
        obtain ⟨N, n1, n2, n3⟩ := rf_st_p hs (by omega) (M0 340 (V i).toNat)
        rw [n1, Option.bind_some]
        exact up N (rf_k_tr hM n2) (by rw [e1]; exact n3)
    · have e0 : ms_gi (P i) = 11 := by rw [a1]; rfl
      have e1 : ms_e1 (P i) (V i) (M0 340) s = sd_wl (1 - x) :: s2 := by rw [a1, a4]; rfl
      rw [if_neg (by omega), if_neg (by omega), if_pos e0]
      rw [a4] at hs
      rw [a4] at vl
      simp only [List.length_cons] at vl
      obtain ⟨N, n1, n2, n3⟩ := rf_st_o hs (by omega)
      rw [n1, Option.bind_some]
      obtain ⟨K, k1, k2, k3⟩ := rf_st_p n3 (by omega) (sd_wl (1 - x))
      rw [k1, Option.bind_some]
      exact up K (rf_k_tr (rf_k_tr hM n2) k2) (by rw [e1]; exact k3)
    · have e0 : ms_gi (P i) ≠ 0 ∧ ms_gi (P i) ≠ 1 ∧ ms_gi (P i) ≠ 11 := by
        unfold ms_gi
        repeat' split
        all_goals omega
      have e1 : ms_e1 (P i) (V i) (M0 340) s = ms_e2 (P i) x y :: s2 := by
        unfold ms_e1
        rw [if_neg (by omega), if_neg (by omega), if_neg (by omega), a4]
      rw [if_neg e0.1, if_neg e0.2.1, if_neg e0.2.2]
      rw [a4] at hs
      rw [a4] at vl
      simp only [List.length_cons] at vl
      obtain ⟨N, n1, n2, n3⟩ := rf_st_o hs (by simp only [List.length_cons]; omega)
      rw [n1, Option.bind_some]
      obtain ⟨K, k1, k2, k3⟩ := rf_st_o n3 (by omega)
      rw [k1, Option.bind_some, rf_one a1 h12, Option.bind_some]
      obtain ⟨L, l1, l2, l3⟩ := rf_st_p k3 (by omega) (ms_e2 (P i) x y)
      rw [l1, Option.bind_some]
      exact up L (rf_k_tr (rf_k_tr (rf_k_tr hM n2) k2) l2) (by rw [e1]; exact l3)
/-- what steps from a place to a place come to -/
def ms_rv (P V ws : Nat → Int) (a b : Nat) : Int := (ms_ru P V ws (b - a) a []).headD 0
theorem rf_reckons {M : sd_M} {r n a b : Nat} {P V : Nat → Int} {k : Bool} (hr : r < 6) (hc : rf_cd M r n P V) (hb : b ≤ n) (hab : a ≤ b) (ht : ms_tr P V (b - a) a [] = some [k]) : ms_T (f_X10_reckons (r : Int) (a : Int) (b : Int) M) (fun v N => v = ms_rv P V (M 340) a b ∧ (k = true → v = 0 ∨ v = 1) ∧ rf_k M N) := by
  have hn := hc.1
  have hc2 : rf_cd (sd_s M 331 18 0) r n P V := ⟨hn, fun i hi => by rw [sd_s_a (by omega)]; exact hc.2 i hi⟩
  obtain ⟨N, n1, n2, n3, n4⟩ := rf_reckons_l hr hc2 hb f_X10_reckons_135 (b - a) a 4000 _ [] [k] [] (by omega) (by omega) rf_k_rf (by simp) ht trivial ⟨by rw [sd_s_at]; rfl, trivial⟩
  rw [sd_s_a (by omega)] at n2 n3
  unfold f_X10_reckons
  rw [n4, f_X10_reckons_135]
  unfold ms_rv
  match e : ms_ru P V (M 340) (b - a) a [], n3 with
  | [x], n3 =>
    rw [e] at n2
    obtain ⟨K, k1, k2, k3⟩ := rf_st_o n2 (by simp)
    rw [k1, Option.bind_some]
    exact ms_t_r ⟨rfl, n3.1, rf_k_tr rf_k_t (rf_k_tr n1 k2)⟩
/-! the reference: what a rule gives -/
/-- a rule: its clauses lie in the reference's row, and its steps are of their kinds -/
def rf_cl (M : sd_M) (r n m : Nat) (P V A B D : Nat → Int) : Prop := (m ≤ 12 ∧ M 336 r = m) ∧ ∀ c, c < m → (0 ≤ A c ∧ A c ≤ B c ∧ B c ≤ D c ∧ D c ≤ n) ∧ (M 335 (48 * r + 4 * c) = A c ∧ M 335 (48 * r + 4 * c + 1) = B c ∧ M 335 (48 * r + 4 * c + 2) = (if B c = D c then -1 else B c) ∧ M 335 (48 * r + 4 * c + 3) = D c) ∧ ms_tr P V ((B c).toNat - (A c).toNat) (A c).toNat [] = some [false] ∧ (B c = D c ∨ ms_tr P V ((D c).toNat - (B c).toNat) (B c).toNat [] = some [true])
/-- what it gives: the first clause's sum whose test holds -/
def ms_wo (P V A B D ws : Nat → Int) : Nat → Nat → Int
  | 0, _ => 0
  | m + 1, c => if B c = D c then ms_rv P V ws (A c).toNat (B c).toNat else if ms_rv P V ws (B c).toNat (D c).toNat = 0 then ms_wo P V A B D ws m (c + 1) else ms_rv P V ws (A c).toNat (B c).toNat
theorem rf_cd_k {M N : sd_M} {r n : Nat} {P V : Nat → Int} (h : rf_cd M r n P V) (e : N 333 = M 333) : rf_cd N r n P V := ⟨h.1, fun i hi => by rw [e]; exact h.2 i hi⟩
theorem rf_summedBy_l {M0 : sd_M} {r n mm : Nat} {P V A B D : Nat → Int} (hr : r < 6) (hc : rf_cd M0 r n P V) (hl : rf_cl M0 r n mm P V A B D) : ∀ (m c fu : Nat) (M : sd_M), c + m = mm → m < fu → rf_k M0 M → ms_T (f_X10_summedBy_2 f_X10_summedBy_58 fu (r : Int) (c : Int) M) (fun v N => v = ms_wo P V A B D (M0 340) m c ∧ rf_k M0 N) := by
  have l12 := hl.1
  intro m
  induction m with
  | zero =>
    intro c fu M hcm hf hM
    obtain ⟨fu, rfl⟩ : ∃ g, fu = g + 1 := ⟨fu - 1, by omega⟩
    rw [f_X10_summedBy_2, if_pos (by omega), hM.1 336 (by omega) (by omega), Int.toNat_natCast, if_pos (by omega)]
    exact ms_t_r ⟨rfl, hM⟩
  | succ m ih =>
    intro c fu M hcm hf hM
    obtain ⟨fu, rfl⟩ : ∃ g, fu = g + 1 := ⟨fu - 1, by omega⟩
    have hn := hc.1
    obtain ⟨b1, ⟨b2, b3, b4, b5⟩, b6, b7⟩ := hl.2 c (by omega)
    have e335 : M 335 = M0 335 := hM.1 335 (by omega) (by omega)
    have e340 : M 340 = M0 340 := hM.1 340 (by omega) (by omega)
    have e333 : M 333 = M0 333 := hM.1 333 (by omega) (by omega)
    have su : ∀ N, rf_k M0 N → ms_T (f_X10_summedBy_58 (r : Int) (48 * (r : Int) + 4 * (c : Int)) N) (fun v N => v = ms_rv P V (M0 340) (A c).toNat (B c).toNat ∧ rf_k M0 N) := by
      intro N hN
      rw [f_X10_summedBy_58, if_pos (by omega), sd_wid (by omega) (by omega), if_pos (by omega), show (48 * (r : Int) + 4 * (c : Int)).toNat = 48 * r + 4 * c by omega, show (48 * (r : Int) + 4 * (c : Int) + 1).toNat = 48 * r + 4 * c + 1 by omega, hN.1 335 (by omega) (by omega), b2, b3]
      have q := rf_reckons (M := N) hr (rf_cd_k hc (hN.1 333 (by omega) (by omega))) (a := (A c).toNat) (b := (B c).toNat) (by omega) (by omega) b6
      rw [Int.toNat_of_nonneg (by omega), Int.toNat_of_nonneg (by omega)] at q
      refine ms_t_b q (fun v K hK => ?_)
      rw [hN.1 340 (by omega) (by omega)] at hK
      exact ms_t_r ⟨hK.1, rf_k_tr hN hK.2.2⟩
    rw [f_X10_summedBy_2, if_pos (by omega), hM.1 336 (by omega) (by omega), Int.toNat_natCast, if_neg (by omega), sd_wid (z := 48 * (r : Int)) (by omega) (by omega), sd_wid (z := 4 * (c : Int)) (by omega) (by omega), sd_wid (z := 48 * (r : Int) + 4 * (c : Int)) (by omega) (by omega), sd_wid (z := 48 * (r : Int) + 4 * (c : Int) + 2) (by omega) (by omega), sd_wid (z := 48 * (r : Int) + 4 * (c : Int) + 3) (by omega) (by omega), if_pos (show 0 ≤ 48 * (r : Int) + 4 * (c : Int) + 2 ∧ 48 * (r : Int) + 4 * (c : Int) + 2 < 288 by omega), show (48 * (r : Int) + 4 * (c : Int) + 2).toNat = 48 * r + 4 * c + 2 by omega, show (48 * (r : Int) + 4 * (c : Int) + 3).toNat = 48 * r + 4 * c + 3 by omega, e335, b4, b5, ms_wo]
    by_cases d : B c = D c
    · rw [if_pos d, if_pos (by omega), if_pos d]
      exact su M hM
    · rw [if_neg d, if_neg (by omega), if_neg d, if_pos (by omega), if_pos (by omega)]
      have b8 := b7.resolve_left d
      have q := rf_reckons (M := M) hr (rf_cd_k hc e333) (a := (B c).toNat) (b := (D c).toNat) (by omega) (by omega) b8
      rw [Int.toNat_of_nonneg (by omega), Int.toNat_of_nonneg (by omega)] at q
      refine ms_t_b q (fun v K hK => ?_)
      simp only []
      rw [e340] at hK
      have t01 := hK.2.1 rfl
      have cm := ms_cmp (x := v) (y := 1)
      by_cases z : v = 0
      · rw [if_neg (by omega), if_pos (by rw [← hK.1]; exact z), sd_wid (by omega) (by omega)]
        have up := ih (c + 1) fu K (by omega) (by omega) (rf_k_tr hM hK.2.2)
        push_cast at up
        exact up
      · rw [if_pos (by omega), if_neg (by rw [← hK.1]; exact z)]
        exact su K (rf_k_tr hM hK.2.2)
theorem rf_summedBy {M : sd_M} {r n mm : Nat} {P V A B D : Nat → Int} (hr : r < 6) (hc : rf_cd M r n P V) (hl : rf_cl M r n mm P V A B D) : ms_T (f_X10_summedBy (r : Int) M) (fun v N => v = ms_wo P V A B D (M 340) mm 0 ∧ rf_k M N) := by
  have l12 := hl.1
  exact rf_summedBy_l hr hc hl mm 0 4000 M (by omega) (by omega) rf_k_rf
