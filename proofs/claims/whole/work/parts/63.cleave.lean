/-! the class: one goes out -/
def cl_fr (M N : sd_M) (b : Nat) : Prop := ∀ a, (a < b ∨ b + 8 ≤ a) → N a = M a
theorem cl_fr_rf {M : sd_M} {b : Nat} : cl_fr M M b := fun _ _ => rfl
theorem cl_fr_tr {M N K : sd_M} {b : Nat} (h : cl_fr M N b) (g : cl_fr N K b) : cl_fr M K b := fun a x => (g a x).trans (h a x)
theorem ms_sg_0 {S : Nat → Int} {f : Nat} (h : S (71 + f) ≠ 1) : ms_sg S (f : Int) = 0 := by
  unfold ms_sg
  rw [if_neg (fun e => h (by have := e.2; rw [Int.toNat_natCast] at this; exact this))]
theorem cl_isOn {M : sd_M} {b : Nat} {S : Nat → Int} (h : ms_ok S) (hb : cl_bs M b S) (f : Int) : f_X0_isOn b f M = some (if (0 ≤ f ∧ f < S 2) ∧ S (71 + f.toNat) = 1 then 1 else 0, M) := by
  have l := ms_lines h
  unfold f_X0_isOn
  by_cases c1 : f < 0
  · rw [if_pos c1, if_neg (by omega)]
  rw [if_neg c1]
  by_cases c2 : 9 ≤ f
  · rw [if_pos c2, if_neg (by omega)]
  rw [if_neg c2, if_pos (by omega), hb.2.2.1 f.toNat (by omega)]
  by_cases c3 : S (71 + f.toNat) = 1
  · rw [if_pos c3]
    by_cases c4 : f < S 2
    · rw [if_pos ⟨by omega, c3⟩]
    · have := h.2.2.2.2.1 f.toNat (by omega) (by omega)
      omega
  · rw [if_neg c3, if_neg (fun e => c3 e.2)]
theorem cl_leave_22 {M0 : sd_M} {b n p : Nat} {f : Int} (hn : n ≤ 9) (h3 : M0 b 3 = n) (hp : p < n) (hpf : M0 (b + 6) p = f) (hu : ∀ k, k < n → M0 (b + 6) k = f → k = p) (kk : Int → Int → sd_M → Option (Int × sd_M)) : ∀ (m k fu : Nat) (M : sd_M), k + m = n → m < fu → (∀ a, a ≠ b + 6 → M a = M0 a) → (∀ j, M (b + 6) j = if p ≤ j ∧ j + 1 < k then M0 (b + 6) (j + 1) else M0 (b + 6) j) → ∃ N, (∀ a, a ≠ b + 6 → N a = M0 a) ∧ (∀ j, N (b + 6) j = if p ≤ j ∧ j + 1 < n then M0 (b + 6) (j + 1) else M0 (b + 6) j) ∧ f_X0_leave_22 kk b fu f (if p < k then (k : Int) - 1 else k) (k : Int) M = kk f ((n : Int) - 1) N := by
  intro m
  induction m with
  | zero =>
    intro k fu M hk hf h1 h2
    obtain ⟨fu, rfl⟩ : ∃ g, fu = g + 1 := ⟨fu - 1, by omega⟩
    obtain rfl : k = n := by omega
    refine ⟨M, h1, h2, ?_⟩
    rw [f_X0_leave_22, h1 b (by omega), if_pos (by omega), if_pos hp]
  | succ m ih =>
    intro k fu M hk hf h1 h2
    obtain ⟨fu, rfl⟩ : ∃ g, fu = g + 1 := ⟨fu - 1, by omega⟩
    have ek : M (b + 6) k = M0 (b + 6) k := by rw [h2, if_neg (by omega)]
    have up := ih (k + 1) fu
    push_cast at up
    rw [f_X0_leave_22, h1 b (by omega), if_neg (by omega), if_pos (by omega), Int.toNat_natCast, ek, f_X0_leave_55, f_X0_leave_55, sd_wid (z := (k : Int) + 1) (by omega) (by omega)]
    by_cases c : M0 (b + 6) k = f
    · have e := hu k (by omega) c
      subst e
      obtain ⟨N, n1, n2, n3⟩ := up M (by omega) (by omega) h1 (fun j => by
        rw [h2]
        by_cases x : k ≤ j ∧ j + 1 < k
        · omega
        · rw [if_neg x, if_neg (by omega)])
      refine ⟨N, n1, n2, ?_⟩
      rw [if_pos c, ← n3, if_neg (show ¬ k < k by omega), if_pos (show k < k + 1 by omega)]
      rw [show (k : Int) + 1 - 1 = k by omega]
    · have np : k ≠ p := fun e => c (by rw [e]; exact hpf)
      rw [if_neg c, if_pos (by omega)]
      by_cases kp : p < k
      · obtain ⟨N, n1, n2, n3⟩ := up (sd_s M (b + 6) (k - 1) (M0 (b + 6) k)) (by omega) (by omega) (fun a ha => by rw [sd_s_a ha, h1 a ha]) (fun j => by
          by_cases ej : j = k - 1
          · subst ej
            rw [sd_s_at, if_pos (by omega), show k - 1 + 1 = k by omega]
          · rw [sd_s_j ej, h2]
            by_cases x : p ≤ j ∧ j + 1 < k
            · rw [if_pos x, if_pos (by omega)]
            · rw [if_neg x, if_neg (by omega)])
        refine ⟨N, n1, n2, ?_⟩
        rw [← n3, if_pos kp, if_pos (show p < k + 1 by omega), if_pos (by omega), sd_wid (by omega) (by omega), show ((k : Int) - 1).toNat = k - 1 by omega]
        rw [show (k : Int) - 1 + 1 = (k : Int) + 1 - 1 by omega]
      · obtain ⟨N, n1, n2, n3⟩ := up (sd_s M (b + 6) k (M0 (b + 6) k)) (by omega) (by omega) (fun a ha => by rw [sd_s_a ha, h1 a ha]) (fun j => by
          rw [if_neg (by omega)]
          by_cases ej : j = k
          · subst ej
            rw [sd_s_at]
          · rw [sd_s_j ej, h2, if_neg (by omega)])
        refine ⟨N, n1, n2, ?_⟩
        rw [← n3, if_neg kp, if_neg (show ¬ p < k + 1 by omega), if_pos (by omega), sd_wid (by omega) (by omega), Int.toNat_natCast]
theorem cl_leave {M : sd_M} {b : Nat} {S : Nat → Int} (h : ms_ok S) (hb : cl_bk M b S) {p : Nat} (hp : (p : Int) < S 60) : ms_T (f_X0_leave b (S (89 + p)) M) (fun _ N => cl_bk N b (ms_go S p (S (89 + p))) ∧ cl_fr M N b) := by
  have l := ms_lines h
  have cw := ms_cw_ge (S := S) (S 2).toNat
  have o := h.2.1
  have a := ms_line h hp
  have on := cl_isOn h hb.1 (S (89 + p))
  rw [if_pos ⟨a.1, a.2.1⟩] at on
  obtain ⟨⟨⟨b0, b1, b3, b4⟩, bf, bw, bl, bo⟩, bp, bsg⟩ := hb
  unfold f_X0_leave
  rw [on, Option.bind_some]
  dsimp only
  rw [if_neg (by omega), if_pos (by rw [b4]; omega)]
  obtain ⟨K, k1, k2, k3⟩ := cl_leave_22 (M0 := M) (b := b) (n := (S 60).toNat) (p := p) (f := S (89 + p)) (by omega) (by rw [b3]; omega) (by omega) (bl p hp) (fun k hk e => by
    rw [bl k (by omega)] at e
    exact h.2.2.2.2.2.2.1 k p (by omega) hp e) (f_X0_leave_61 b) (S 60).toNat 0 4000 M (by omega) (by omega) (fun _ _ => rfl) (fun j => by rw [if_neg (by omega)])
  rw [if_neg (by omega)] at k3
  have k4 : f_X0_leave_22 (f_X0_leave_61 b) b 4000 (S (89 + p)) 0 0 M = _ := k3
  rw [k4]
  have e4 : K b 4 = S 61 := by rw [k1 b (by omega), b4]
  have hc : (0 ≤ S (89 + p) ∧ S (89 + p) < 9) = True := eq_true (by omega)
  have ho : (0 ≤ S 61 ∧ S 61 < 9) = True := eq_true (by omega)
  unfold f_X0_leave_61
  simp only [hc, if_true, sd_s_a (show b ≠ b + 4 by omega), sd_s_a (show b ≠ b + 3 by omega), sd_s_a (show b ≠ b + 7 by omega), sd_s_j (show (4 : Nat) ≠ 3 by omega), e4, ho]
  rw [sd_wid (z := S 61 + 1) (by omega) (by omega)]
  have g1 : 1 ≤ S 60 := by omega
  have ef : S (89 + p) < 9 := by omega
  have t2 : ms_go S p (S (89 + p)) 2 = S 2 := ms_go_lo g1 (by omega)
  refine ms_t_b (cl_sign (S := ms_go S p (S (89 + p))) (ms_go_ok h hp) ?_ ?_) (fun r N hN => ms_t_r ⟨hN.1, ?_⟩)
  · refine ⟨⟨?_, ?_, ?_, ?_⟩, fun f hf => ⟨?_, ?_, ?_⟩, fun f hf => ?_, fun k hk => ?_, fun k hk => ?_⟩
    · rw [sd_s_j (by omega), sd_s_a (show b ≠ b + 7 by omega), sd_s_a (show b ≠ b + 4 by omega), sd_s_a (show b ≠ b + 3 by omega), sd_s_j (by omega), k1 b (by omega), b0, ms_go_lo g1 (by omega)]
    · rw [sd_s_j (by omega), sd_s_a (show b ≠ b + 7 by omega), sd_s_a (show b ≠ b + 4 by omega), sd_s_a (show b ≠ b + 3 by omega), sd_s_j (by omega), k1 b (by omega), b1, ms_go_lo g1 (by omega)]
    · rw [sd_s_j (by omega), sd_s_a (show b ≠ b + 7 by omega), sd_s_a (show b ≠ b + 4 by omega), sd_s_a (show b ≠ b + 3 by omega), sd_s_at, ms_go_60]
      omega
    · rw [sd_s_at, ms_go_61]
    · rw [t2] at hf
      rw [sd_s_a (by omega), sd_s_a (by omega), sd_s_a (by omega), sd_s_a (by omega), sd_s_a (by omega), k1 _ (by omega), (bf f hf).1, ms_go_62 g1 (by omega)]
    · rw [t2] at hf
      rw [sd_s_a (by omega), sd_s_a (by omega), sd_s_a (by omega), sd_s_a (by omega), sd_s_a (by omega), k1 _ (by omega), (bf f hf).2.1, ms_go_lo g1 (by omega)]
    · rw [t2] at hf
      rw [sd_s_a (by omega), sd_s_a (by omega), sd_s_a (by omega), sd_s_a (by omega), sd_s_a (by omega), k1 _ (by omega), (bf f hf).2.2, ms_go_80 g1 ef (by omega)]
    · rw [sd_s_a (by omega), sd_s_a (by omega), sd_s_a (by omega), ms_go_71 g1 hf]
      by_cases e : f = (S (89 + p)).toNat
      · rw [if_pos e, e, sd_s_at]
      · rw [if_neg e, sd_s_j e, sd_s_a (by omega), k1 _ (by omega), bw f hf]
    · rw [ms_go_60] at hk
      rw [sd_s_a (by omega), sd_s_a (by omega), sd_s_a (by omega), sd_s_a (by omega), sd_s_a (by omega), k2, ms_go_89 (by omega) ef hk]
      by_cases e : p ≤ k
      · rw [if_pos (by omega), if_pos e, bl (k + 1) (by omega)]
      · rw [if_neg (by omega), if_neg e, bl k (by omega)]
    · rw [ms_go_61] at hk
      rw [sd_s_a (by omega), ms_go_98 (by omega) ef]
      by_cases e : k = (S 61).toNat
      · rw [if_pos e, e, sd_s_at]
      · rw [if_neg e, sd_s_j e, sd_s_a (by omega), sd_s_a (by omega), sd_s_a (by omega), k1 _ (by omega), bo k (by omega)]
  · intro f hf hne
    rw [ms_go_71 g1 hf] at hne
    rw [sd_s_a (by omega), sd_s_a (by omega)]
    by_cases e : f = (S (89 + p)).toNat
    · rw [e, sd_s_at]
    · rw [if_neg e] at hne
      rw [sd_s_j e, sd_s_a (by omega), sd_s_a (by omega), k1 _ (by omega), bsg f hf, ms_sg_0 hne]
  · intro x hx
    dsimp only
    rw [hN.2 x (by omega) (by omega), sd_s_a (by omega), sd_s_a (by omega), sd_s_a (by omega), sd_s_a (by omega), sd_s_a (by omega), k1 x (by omega)]
