/-! slips are read alike -/
theorem sl_lt {B : Nat → Int} {n c p : Nat} {R : Nat → Int} : sl_p (sl_c B n c R p) (fun _ => True) (fun _ _ => c < 40) := by
  unfold sl_c
  by_cases a1 : tx_kd B n p = 611 ∨ tx_kd B n p = 600 ∨ tx_kd B n p = 603
  · rw [if_pos a1]
    by_cases a2 : 40 ≤ c
    · rw [if_pos a2]
      trivial
    · have h : ∀ o : sl_R, sl_p o (fun _ => True) (fun _ _ => c < 40) := by
        intro o
        cases o with
        | inl f => trivial
        | inr x => exact show c < 40 by omega
      exact h _
  · rw [if_neg a1]
    trivial
def sl_oc (o : Int ⊕ (Nat → Int)) (M : sd_M) (g : Option (Int × sd_M)) : Prop := match o with
  | .inl f => ∃ N, g = some (0, N) ∧ N 1 2 = f ∧ sl_fr M N
  | .inr R => ∃ N, g = some (1, N) ∧ sl_tg N R ∧ sl_fr M N
def sl_or (o : Int ⊕ (Nat → Int)) (K : sd_M) (g : Option (Int × sd_M)) : Prop := match o with
  | .inl f => ∃ N, g = some (0, N) ∧ N 331 9 = f ∧ N 331 1 = 0 ∧ sl_r4 K N
  | .inr R => ∃ N, g = some (1, N) ∧ N 337 = R ∧ N 331 1 = 0 ∧ sl_r4 K N
def sl_og (o : Int ⊕ (Nat → Int)) : Prop := match o with
  | .inl _ => True
  | .inr R => ms_tl R ∧ R 0 = 1
theorem sl_88 {K N : sd_M} {f : Int} (h : sl_r4 K N) (h9 : N 331 9 = f) : f_X10_readsAll_88 N = some (if f = 0 then 1 else 0, sd_s N 331 1 0) ∧ (sd_s N 331 1 0) 331 9 = f ∧ (sd_s N 331 1 0) 331 1 = 0 ∧ sl_r4 K (sd_s N 331 1 0) ∧ (sd_s N 331 1 0) 337 = N 337 := by
  have e : (sd_s N 331 1 0) 331 9 = f := by rw [sd_s_j (by omega), h9]
  refine ⟨?_, e, sd_s_at, sl_r4_tr h (sl_r4_s (by omega)), sd_s_a (by omega)⟩
  unfold f_X10_readsAll_88
  rw [e]
  by_cases c : f = 0
  · rw [if_pos c, if_pos c]
  · rw [if_neg c, if_neg c]
theorem sl_loop {B : Nat → Int} {n : Nat} (hbb : ∀ j, j < n → -128 ≤ B j ∧ B j < 128) : ∀ (m c : Nat) (R : Nat → Int) (p : Nat), c + m = 41 → 1 ≤ m → ms_tl R → (R 0 = 0 ↔ c = 0) → ∃ o : Int ⊕ (Nat → Int), sl_og o ∧ (∀ (M : sd_M) (fu : Nat), m < fu → tx_cs M B n p → sl_tg M R → sl_oc o M (f_X6_reads_30 f_X6_reads_68 fu (c : Int) M)) ∧ (∀ (K : sd_M) (fu : Nat), m < fu → sl_rs K B n c R p → sl_or o K ((f_X10_clauseHere K).bind fun r2 => f_X10_readsAll_35 f_X10_readsAll_66 fu r2.1 r2.2)) := by
  intro m
  induction m with
  | zero =>
    intro c R p hc h1
    exact absurd h1 (by omega)
  | succ m ih =>
    intro c R p hc h1 tl h0
    have tl0 := tl.1
    have P := sl_pos (B := B) (n := n) (c := c) (p := p) (R := R)
    have T := sl_tl (B := B) (n := n) (p := p) (c := c) tl (fun w => by
      have := h0.mp
      omega)
    have L := sl_lt (B := B) (n := n) (c := c) (p := p) (R := R)
    have C := fun (M : sd_M) (cs : tx_cs M B n p) (tg : sl_tg M R) => sl_cls (c := c) cs tg tl
    have F := fun (K : sd_M) (rs : sl_rs K B n c R p) => sl_rfc rs tl h0 (by omega)
    generalize sl_c B n c R p = o at P T L C F
    cases o with
    | inl f =>
      have P : 0 < f := P
      refine ⟨.inl f, trivial, fun M fu hf cs tg => ?_, fun K fu hf rs => ?_⟩
      · obtain ⟨fu, rfl⟩ : ∃ g, fu = g + 1 := ⟨fu - 1, by omega⟩
        obtain ⟨N, e, n2, fr⟩ := C M cs tg
        refine ⟨N, ?_, n2, fr⟩
        rw [f_X6_reads_30, if_neg (by omega), e, Option.bind_some]
        rfl
      · obtain ⟨fu, rfl⟩ : ∃ g, fu = g + 1 := ⟨fu - 1, by omega⟩
        obtain ⟨N, e, n9, fr⟩ := F K rs
        obtain ⟨q1, q2, q3, q4, q5⟩ := sl_88 fr n9
        refine ⟨sd_s N 331 1 0, ?_, q2, q3, q4⟩
        rw [e, Option.bind_some]
        simp only []
        rw [f_X10_readsAll_35, if_pos rfl]
        unfold f_X10_readsAll_66
        rw [if_pos rfl, q1, if_neg (by omega)]
    | inr x =>
      obtain ⟨p2, R2⟩ := x
      have T : ms_tl R2 ∧ R2 0 = 1 := T
      have L : c < 40 := L
      have C : ∀ (M : sd_M), tx_cs M B n p → sl_tg M R → ∃ N, f_X6_readsClause (c : Int) M = some (1, N) ∧ tx_cs N B n p2 ∧ sl_tg N R2 ∧ sl_fr M N := C
      have F : ∀ (K : sd_M), sl_rs K B n c R p → ∃ N, f_X10_clauseHere K = some (1, N) ∧ sl_rs N B n (c + 1) R2 p2 ∧ sl_r4 K N := F
      have S := tx_sg (B := B) (n := n) (p := p2) hbb (s := 59) (by omega) (by omega) (by omega) (by omega)
      by_cases k1 : tx_kd B n p2 = 512
      · refine ⟨.inr R2, T, fun M fu hf cs tg => ?_, fun K fu hf rs => ?_⟩
        · obtain ⟨fu, rfl⟩ : ∃ g, fu = g + 1 := ⟨fu - 1, by omega⟩
          obtain ⟨N, e, csN, tgN, fr⟩ := C M cs tg
          refine ⟨N, ?_, tgN, fr⟩
          rw [f_X6_reads_30, if_neg (by omega), e, Option.bind_some]
          simp only []
          rw [if_neg (by decide), tx_kind csN, Option.bind_some]
          simp only []
          rw [if_pos k1]
        · obtain ⟨fu, rfl⟩ : ∃ g, fu = g + 1 := ⟨fu - 1, by omega⟩
          obtain ⟨N, e, rsN, fr⟩ := F K rs
          obtain ⟨n1, n2, n3, n4, n5⟩ := rsN
          have b := tx_rs_b n1
          have pn : n ≤ p2 := (tx_kd_n b.1 hbb).mp k1
          have s8 := tx_rs_8 n1
          obtain ⟨q1, q2, q3, q4, q5⟩ := sl_88 (N := sd_s N 331 8 (p2 : Int)) (f := 0) (sl_r4_tr fr (sl_r4_s (by omega))) (by rw [sd_s_j (by omega), n2])
          refine ⟨sd_s (sd_s N 331 8 (p2 : Int)) 331 1 0, ?_, ?_, q3, q4⟩
          · rw [e, Option.bind_some]
            simp only []
            rw [f_X10_readsAll_35, if_neg (by decide), tx_see n1, Option.bind_some]
            simp only []
            rw [if_neg (by rw [if_neg (by omega)]; decide)]
            unfold f_X10_readsAll_66
            rw [if_neg (by decide), tx_see s8, Option.bind_some]
            simp only []
            rw [if_pos (by rw [if_neg (by omega)]), sd_s_ss, q1, if_pos rfl]
          · rw [q5, sd_s_a (by omega), n5]
      · by_cases k2 : tx_kd B n p2 = 59
        · obtain ⟨pn, bp, nx⟩ := S.2 k2
          obtain ⟨o, og, oc, orr⟩ := ih (c + 1) R2 (tx_nx B n p2) (by omega) (by omega) T.1 (by omega)
          refine ⟨o, og, fun M fu hf cs tg => ?_, fun K fu hf rs => ?_⟩
          · obtain ⟨fu, rfl⟩ : ∃ g, fu = g + 1 := ⟨fu - 1, by omega⟩
            obtain ⟨N, e, csN, tgN, fr⟩ := C M cs tg
            obtain ⟨N2, e2, cs2, a1, a2⟩ := tx_step csN
            have q := oc N2 fu (by omega) cs2 (sl_tg_st tgN ⟨a1, a2⟩)
            have eq : f_X6_reads_30 f_X6_reads_68 (fu + 1) (c : Int) M = f_X6_reads_30 f_X6_reads_68 fu ((c + 1 : Nat) : Int) N2 := by
              rw [f_X6_reads_30, if_neg (by omega), e, Option.bind_some]
              simp only []
              rw [if_neg (by decide), tx_kind csN, Option.bind_some]
              simp only []
              rw [if_neg k1, tx_kind csN, Option.bind_some]
              simp only []
              rw [if_pos k2, e2, Option.bind_some, sd_wid (by omega) (by omega)]
              rfl
            rw [eq]
            have fr2 := sl_fr_tr fr (sl_st_fr ⟨a1, a2⟩)
            cases o with
            | inl f =>
              obtain ⟨N3, e3, n3, fr3⟩ := q
              exact ⟨N3, e3, n3, sl_fr_tr fr2 fr3⟩
            | inr R3 =>
              obtain ⟨N3, e3, n3, fr3⟩ := q
              exact ⟨N3, e3, n3, sl_fr_tr fr2 fr3⟩
          · obtain ⟨fu, rfl⟩ : ∃ g, fu = g + 1 := ⟨fu - 1, by omega⟩
            obtain ⟨N, e, rsN, fr⟩ := F K rs
            obtain ⟨n1, n2, n3, n4, n5⟩ := rsN
            have b := tx_rs_b n1
            obtain ⟨K2, hK2⟩ : ∃ K2, K2 = sd_s N 331 8 ((p2 + 1 : Nat) : Int) := ⟨_, rfl⟩
            have fK2 : sl_r4 N K2 := hK2 ▸ sl_r4_s (by omega)
            have r2 : sl_rs K2 B n (c + 1) R2 (tx_nx B n p2) := by
              rw [hK2, nx]
              exact ⟨tx_rs_n n1.1 (by omega), by rw [sd_s_j (by omega), n2], by rw [sd_s_j (by omega), n3], by rw [sd_s_j (by omega), n4], by rw [sd_s_a (by omega), n5]⟩
            have q := orr K2 fu (by omega) r2
            have eq : ((f_X10_clauseHere K).bind fun r2 => f_X10_readsAll_35 f_X10_readsAll_66 (fu + 1) r2.1 r2.2) = ((f_X10_clauseHere K2).bind fun r2 => f_X10_readsAll_35 f_X10_readsAll_66 fu r2.1 r2.2) := by
              rw [e, Option.bind_some]
              simp only []
              rw [f_X10_readsAll_35, if_neg (by decide), tx_see n1, Option.bind_some]
              simp only []
              rw [if_pos (S.1.mpr k2), sd_s_at, sd_s_ss, sd_wid (by omega) (by omega), hK2]
              rfl
            rw [eq]
            have fr2 := sl_r4_tr fr fK2
            cases o with
            | inl f =>
              obtain ⟨N3, e3, n3, n4, fr3⟩ := q
              exact ⟨N3, e3, n3, n4, sl_r4_tr fr2 fr3⟩
            | inr R3 =>
              obtain ⟨N3, e3, n3, n4, fr3⟩ := q
              exact ⟨N3, e3, n3, n4, sl_r4_tr fr2 fr3⟩
        · refine ⟨.inl (sl_f p2 0), trivial, fun M fu hf cs tg => ?_, fun K fu hf rs => ?_⟩
          · obtain ⟨fu, rfl⟩ : ∃ g, fu = g + 1 := ⟨fu - 1, by omega⟩
            obtain ⟨N, e, csN, tgN, fr⟩ := C M cs tg
            obtain ⟨N2, e2, n2, fr2⟩ := sl_f0 csN (w := 0) (by omega)
            refine ⟨N2, ?_, n2, sl_fr_tr fr fr2⟩
            rw [f_X6_reads_30, if_neg (by omega), e, Option.bind_some]
            simp only []
            rw [if_neg (by decide), tx_kind csN, Option.bind_some]
            simp only []
            rw [if_neg k1, tx_kind csN, Option.bind_some]
            simp only []
            rw [if_neg k2]
            exact e2
          · obtain ⟨fu, rfl⟩ : ∃ g, fu = g + 1 := ⟨fu - 1, by omega⟩
            obtain ⟨N, e, rsN, fr⟩ := F K rs
            obtain ⟨n1, n2, n3, n4, n5⟩ := rsN
            have b := tx_rs_b n1
            have pn : p2 < n := by
              have := (tx_kd_n b.1 hbb).mpr
              omega
            have s8 := tx_rs_8 n1
            have u := tx_ub_c (B p2)
            have ub := hbb p2 pn
            have z9 : sd_s N 331 8 (p2 : Int) 331 9 = 0 := by rw [sd_s_j (by omega), n2]
            have ff := tx_rfails z9 (p := p2) (w := 0) (by omega) (by omega)
            rw [show ((0 : Nat) : Int) = 0 from rfl] at ff
            obtain ⟨q1, q2, q3, q4, q5⟩ := sl_88 (N := sd_s (sd_s N 331 8 (p2 : Int)) 331 9 (sl_f p2 0)) (f := sl_f p2 0) (sl_r4_tr fr (sl_r4_tr (sl_r4_s (by omega)) (sl_r4_s (by omega)))) sd_s_at
            refine ⟨_, ?_, q2, q3, q4⟩
            rw [e, Option.bind_some]
            simp only []
            rw [f_X10_readsAll_35, if_neg (by decide), tx_see n1, Option.bind_some]
            simp only []
            rw [if_neg (fun w => k2 (S.1.mp w))]
            unfold f_X10_readsAll_66
            rw [if_neg (by decide), tx_see s8, Option.bind_some]
            simp only []
            rw [if_neg (by rw [if_pos pn]; omega), sd_s_ss, sd_s_at, ff, Option.bind_some]
            simp only []
            refine Eq.trans q1 ?_
            rw [if_neg (by unfold sl_f; omega)]
