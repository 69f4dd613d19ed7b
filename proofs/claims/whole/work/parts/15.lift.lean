/-! rules of our machine over M: what the lifted methods' proofs are made of -/
def sd_s (M : sd_M) (a i : Nat) (v : Int) : sd_M := fun b j => if b = a ∧ j = i then v else M b j
def sd_cp (M : sd_M) (a b n : Nat) : sd_M := fun c j => if c = b ∧ j < n then M a j else M c j
theorem sd_rp_get (M : sd_M) (a : Nat) : (sd_rp M)[a]? = (sd_sh[a]?).map (fun s => sd_mk s (M a)) := by simp [sd_rp]
theorem sd_rp_set {M N : sd_M} {a : Nat} {s : sd_S} (h : sd_sh[a]? = some s) (hn : ∀ b, b ≠ a → N b = M b) : (sd_rp M).set a (sd_mk s (N a)) = sd_rp N := by
  apply List.ext_getElem?
  intro k
  rw [List.getElem?_set]
  split
  · rename_i hk
    subst hk
    rw [if_pos (by simp [sd_rp]; exact (List.getElem?_eq_some_iff.mp h).1), sd_rp_get, h]
    rfl
  · rename_i hk
    rw [sd_rp_get, sd_rp_get, hn k (fun e => hk e.symm)]
theorem sd_s_ne {M : sd_M} {a i : Nat} {v : Int} : ∀ b, b ≠ a → sd_s M a i v b = M b := fun b hb => by
  funext j
  simp [sd_s, hb]
theorem sd_cp_ne {M : sd_M} {a b n : Nat} : ∀ c, c ≠ b → sd_cp M a b n c = M c := fun c hc => by
  funext j
  simp [sd_cp, hc]
theorem sd_mkf_get {a ci k : Nat} {m : Nat → Int} {x : Nat ⊕ Bool} (h : (sd_ks ci)[k]? = some x) : (((sd_ks ci).map (sd_sf a)).mapIdx (sd_mkf m))[k]? = some (sd_mkf m k (sd_sf a x)) := by
  simp [h]
theorem sd_mkf_set {ks : List (Nat ⊕ Bool)} {a k : Nat} {M : sd_M} {x : Nat ⊕ Bool} {v : Int} (h : ks[k]? = some x) : (ks.mapIdx (sd_mkf (M a))).set k (sd_mkf (fun _ => v) k x) = ks.mapIdx (sd_mkf (sd_s M a k v a)) := by
  apply List.ext_getElem?
  intro j
  rw [List.getElem?_set]
  split
  · rename_i hk
    subst hk
    rw [if_pos (by simp; exact (List.getElem?_eq_some_iff.mp h).1), List.getElem?_mapIdx, h]
    rcases x with x | x | x <;> simp [sd_mkf, sd_s]
  · rename_i hk
    rw [List.getElem?_mapIdx, List.getElem?_mapIdx]
    cases ks[j]? with
    | none => rfl
    | some y => rcases y with y | y | y <;> simp [sd_mkf, sd_s, Ne.symm hk]
def sd_B (X : Nat → List sd_V → List sd_E → sd_A → Prop) (d : Nat) (q : sd_MI) (pc : Nat) (lv : List (Nat × sd_V)) (st : List sd_V) (M : sd_M) (R : sd_A) : Prop := ∃ n, sd_Ex (sd_Cal X d) q n (pc, lv, st, sd_rp M, 0, 0) R
def sd_go (q : sd_MI) : Nat → sd_F → Option sd_F
  | 0, F => some F
  | n + 1, F => match q.2.2.2.2.2.2.lookup F.1 with
    | some (ins, len) => match sd_cl q.2.2.2.2.1 ins len with
      | none => match sd_st q.2.2.2.2.1 (q.1.name == "<init>") q.2.2.1 q.2.2.2.1 ins len F with
        | some (.inl F1) => sd_go q n F1
        | _ => none
      | some _ => none
    | none => none
section SdLift
variable {X : Nat → List sd_V → List sd_E → sd_A → Prop} {d : Nat} {q : sd_MI} {pc : Nat} {lv : List (Nat × sd_V)} {st : List sd_V} {M : sd_M} {R : sd_A}
theorem sd_b_ex {n : Nat} {F F1 : sd_F} {ins : Jvm.ClassFile.Instr} {len : Nat} (hop : q.2.2.2.2.2.2.lookup F.1 = some (ins, len)) (hcl : sd_cl q.2.2.2.2.1 ins len = none) (hst : sd_st q.2.2.2.2.1 (q.1.name == "<init>") q.2.2.1 q.2.2.2.1 ins len F = some (.inl F1)) (H : sd_Ex (sd_Cal X d) q n F1 R) : sd_Ex (sd_Cal X d) q (n + 1) F R :=
  Or.inl (Or.inl ⟨.inl F1, by unfold sd_sR; rw [hop]; dsimp only; rw [hcl]; exact hst, H⟩)
/-- one step -/
theorem sd_b_1 {pc2 : Nat} {lv2 : List (Nat × sd_V)} {st2 : List sd_V} {M2 : sd_M} {ins : Jvm.ClassFile.Instr} {len : Nat} (hop : q.2.2.2.2.2.2.lookup pc = some (ins, len)) (hcl : sd_cl q.2.2.2.2.1 ins len = none) (hst : sd_st q.2.2.2.2.1 (q.1.name == "<init>") q.2.2.1 q.2.2.2.1 ins len (pc, lv, st, sd_rp M, 0, 0) = some (.inl (pc2, lv2, st2, sd_rp M2, 0, 0))) (H : sd_B X d q pc2 lv2 st2 M2 R) : sd_B X d q pc lv st M R := by
  obtain ⟨n, h⟩ := H
  exact ⟨n + 1, sd_b_ex hop hcl hst h⟩
theorem sd_go_ex {F1 : sd_F} {m : Nat} (H : sd_Ex (sd_Cal X d) q m F1 R) : ∀ (n : Nat) (F : sd_F), sd_go q n F = some F1 → ∃ k, sd_Ex (sd_Cal X d) q k F R := by
  intro n
  induction n with
  | zero => intro F h; cases h; exact ⟨m, H⟩
  | succ n ih =>
    intro F h
    unfold sd_go at h
    split at h
    · rename_i ins len hop
      split at h
      · rename_i hcl
        split at h
        · rename_i F2 hst
          obtain ⟨k, hk⟩ := ih F2 h
          exact ⟨k + 1, sd_b_ex hop hcl hst hk⟩
        · cases h
      · cases h
    · cases h
/-- n steps that touch no cell -/
theorem sd_b_go (n : Nat) {pc2 : Nat} {lv2 : List (Nat × sd_V)} {st2 : List sd_V} (h : sd_go q n (pc, lv, st, sd_rp M, 0, 0) = some (pc2, lv2, st2, sd_rp M, 0, 0)) (H : sd_B X d q pc2 lv2 st2 M R) : sd_B X d q pc lv st M R := by
  obtain ⟨m, hm⟩ := H
  exact sd_go_ex hm n _ h
/-- locals are forgotten, or laid in another order -/
theorem sd_b_wk (lv2 : List (Nat × sd_V)) (h : ∀ e ∈ lv2, lv.lookup e.1 = some e.2) (H : sd_B X d q pc lv2 st M R) : sd_B X d q pc lv st M R := by
  obtain ⟨n, hn⟩ := H
  exact ⟨n + 1, Or.inl (Or.inr ⟨lv2, h, hn⟩)⟩
/-- the text constant -/
theorem sd_b_y {pc2 : Nat} {lv2 : List (Nat × sd_V)} {st2 : List sd_V} (h : sd_Y q (pc, lv, st, sd_rp M, 0, 0) = some (pc2, lv2, st2, sd_rp M, 0, 0)) (H : sd_B X d q pc2 lv2 st2 M R) : sd_B X d q pc lv st M R := by
  obtain ⟨n, hn⟩ := H
  exact ⟨n + 1, Or.inr ⟨_, h, hn⟩⟩
theorem sd_b_ch {i : Nat} {z : Int} (ho : q.2.2.2.2.1 = 7) (h1 : q.2.2.2.2.2.2.lookup pc = some (.ldc 62, 2)) (h2 : q.2.2.2.2.2.2.lookup (pc + 2) = some (.iload i, 2)) (h3 : q.2.2.2.2.2.2.lookup (pc + 4) = some (.invokevirtual 69, 3)) (hl : lv.lookup i = some (.inl z)) (h8 : sd_sum st ≤ 8) (hz : 0 ≤ z ∧ z < 92) (H : sd_B X d q (pc + 7) lv (.inl (sd_word z.toNat) :: st) M R) : sd_B X d q pc lv st M R := by
  refine sd_b_y ?_ H
  unfold sd_Y
  simp only [ho, h1, h2, h3, hl, h8, hz, and_self, if_true]
/-- the end -/
theorem sd_b_rt {ins : Jvm.ClassFile.Instr} {len : Nat} (hop : q.2.2.2.2.2.2.lookup pc = some (ins, len)) (hcl : sd_cl q.2.2.2.2.1 ins len = none) (hst : sd_st q.2.2.2.2.1 (q.1.name == "<init>") q.2.2.1 q.2.2.2.1 ins len (pc, lv, st, sd_rp M, 0, 0) = some (.inr R)) : sd_B X d q pc lv st M R :=
  ⟨1, Or.inl (Or.inl ⟨.inr R, by unfold sd_sR; rw [hop]; dsimp only; rw [hcl]; exact hst, rfl⟩)⟩
theorem sd_b_rz {v : Int} (hv : v = 0 ∨ v = 1) (hop : q.2.2.2.2.2.2.lookup pc = some (.ireturn, 1)) (hr : q.2.2.2.1 = some .boolean) : sd_B X d q pc lv [.inl v] M (some (.inl v), sd_rp M, 0, 0) := by
  refine sd_b_rt hop rfl ?_
  simp only [sd_st, if_true]
  rw [hr]
  dsimp only
  unfold sd_ret
  dsimp only
  exact if_pos (decide_eq_true hv)
/-- fields -/
theorem sd_b_gf {a ci k i : Nat} {x : Nat ⊕ Bool} (h : sd_o a ci) (hop : q.2.2.2.2.2.2.lookup pc = some (.getfield i, 3)) (hf : sd_flT.lookup (q.2.2.2.2.1, i) = some (ci, k)) (hk : (sd_ks ci)[k]? = some x) (H : sd_B X d q (pc + 3) lv (sd_mkf (M a) k (sd_sf a x) :: st) M R) : sd_B X d q pc lv (.inr (.inr (some a)) :: st) M R := by
  refine sd_b_1 hop rfl ?_ H
  simp only [sd_st, if_true]
  unfold sd_get
  rw [hf]
  dsimp only
  rw [sd_rp_get, h]
  simp only [Option.map_some, sd_mk, sd_ob, if_true]
  rw [sd_mkf_get hk]
  rfl
theorem sd_b_gi {a ci k i : Nat} (h : sd_o a ci) (hop : q.2.2.2.2.2.2.lookup pc = some (.getfield i, 3)) (hf : sd_flT.lookup (q.2.2.2.2.1, i) = some (ci, k)) (hk : (sd_ks ci)[k]? = some (.inr false)) (H : sd_B X d q (pc + 3) lv (.inl (M a k) :: st) M R) : sd_B X d q pc lv (.inr (.inr (some a)) :: st) M R := sd_b_gf h hop hf hk H
theorem sd_b_gl {a ci k i : Nat} (h : sd_o a ci) (hop : q.2.2.2.2.2.2.lookup pc = some (.getfield i, 3)) (hf : sd_flT.lookup (q.2.2.2.2.1, i) = some (ci, k)) (hk : (sd_ks ci)[k]? = some (.inr true)) (H : sd_B X d q (pc + 3) lv (.inr (.inl (M a k)) :: st) M R) : sd_B X d q pc lv (.inr (.inr (some a)) :: st) M R := sd_b_gf h hop hf hk H
theorem sd_b_gr {a ci k i off : Nat} (h : sd_o a ci) (hop : q.2.2.2.2.2.2.lookup pc = some (.getfield i, 3)) (hf : sd_flT.lookup (q.2.2.2.2.1, i) = some (ci, k)) (hk : (sd_ks ci)[k]? = some (.inl off)) (H : sd_B X d q (pc + 3) lv (.inr (.inr (some (a + off))) :: st) M R) : sd_B X d q pc lv (.inr (.inr (some a)) :: st) M R := sd_b_gf h hop hf hk H
theorem sd_b_pf {a ci k i : Nat} {x : Nat ⊕ Bool} {v : Int} (h : sd_o a ci) (hop : q.2.2.2.2.2.2.lookup pc = some (.putfield i, 3)) (hf : sd_flT.lookup (q.2.2.2.2.1, i) = some (ci, k)) (hk : (sd_ks ci)[k]? = some x) (hx : ∀ b, sd_sf b x = x) (hfit : sd_fit (sd_ty ci k) (sd_mkf (fun _ => v) k x) = true) (hfin : sd_fin ci k = false) (H : sd_B X d q (pc + 3) lv st (sd_s M a k v) R) : sd_B X d q pc lv (sd_mkf (fun _ => v) k x :: .inr (.inr (some a)) :: st) M R := by
  refine sd_b_1 hop rfl ?_ H
  simp only [sd_st, if_true]
  unfold sd_put
  rw [hf]
  dsimp only
  rw [sd_rp_get, h]
  simp only [Option.map_some, sd_mk, sd_ob]
  have hk2 : ((sd_ks ci).map (sd_sf a))[k]? = some x := by simp [hk, hx]
  rw [if_pos ⟨trivial, by simpa using (List.getElem?_eq_some_iff.mp hk).1, hfit, Or.inl hfin⟩]
  rw [sd_mkf_set hk2]
  have := sd_rp_set (M := M) (N := sd_s M a k v) (s := sd_ob a ci) h sd_s_ne
  simp only [sd_ob, sd_mk] at this
  rw [sd_nm]
  dsimp only
  rw [this]
theorem sd_b_pi {a ci k i : Nat} {v : Int} (h : sd_o a ci) (hop : q.2.2.2.2.2.2.lookup pc = some (.putfield i, 3)) (hf : sd_flT.lookup (q.2.2.2.2.1, i) = some (ci, k)) (hk : (sd_ks ci)[k]? = some (.inr false)) (hty : sd_ty ci k = .int) (hfin : sd_fin ci k = false) (H : sd_B X d q (pc + 3) lv st (sd_s M a k v) R) : sd_B X d q pc lv (.inl v :: .inr (.inr (some a)) :: st) M R := sd_b_pf (x := .inr false) (v := v) h hop hf hk (fun _ => rfl) (by rw [hty]; rfl) hfin H
theorem sd_b_pz {a ci k i : Nat} {v : Int} (h : sd_o a ci) (hop : q.2.2.2.2.2.2.lookup pc = some (.putfield i, 3)) (hf : sd_flT.lookup (q.2.2.2.2.1, i) = some (ci, k)) (hk : (sd_ks ci)[k]? = some (.inr false)) (hty : sd_ty ci k = .boolean) (hv : v = 0 ∨ v = 1) (hfin : sd_fin ci k = false) (H : sd_B X d q (pc + 3) lv st (sd_s M a k v) R) : sd_B X d q pc lv (.inl v :: .inr (.inr (some a)) :: st) M R := sd_b_pf (x := .inr false) (v := v) h hop hf hk (fun _ => rfl) (by rw [hty]; exact decide_eq_true hv) hfin H
theorem sd_b_pl {a ci k i : Nat} {v : Int} (h : sd_o a ci) (hop : q.2.2.2.2.2.2.lookup pc = some (.putfield i, 3)) (hf : sd_flT.lookup (q.2.2.2.2.1, i) = some (ci, k)) (hk : (sd_ks ci)[k]? = some (.inr true)) (hty : sd_ty ci k = .long) (hfin : sd_fin ci k = false) (H : sd_B X d q (pc + 3) lv st (sd_s M a k v) R) : sd_B X d q pc lv (.inr (.inl v) :: .inr (.inr (some a)) :: st) M R := sd_b_pf (x := .inr true) (v := v) h hop hf hk (fun _ => rfl) (by rw [hty]; rfl) hfin H
/-- arrays -/
theorem sd_b_ai {a n : Nat} {i : Int} (h : sd_a a 0 n) (hi : 0 ≤ i ∧ i < (n : Int)) (hop : q.2.2.2.2.2.2.lookup pc = some (.iaload, 1)) (H : sd_B X d q (pc + 1) lv (.inl (M a i.toNat) :: st) M R) : sd_B X d q pc lv (.inl i :: .inr (.inr (some a)) :: st) M R := by
  refine sd_b_1 hop rfl ?_ H
  simp only [sd_st, if_true]
  unfold sd_ald
  dsimp only
  rw [sd_rp_get, h]
  simp only [Option.map_some, sd_mk, sd_ar]
  rw [if_pos ⟨rfl, decide_eq_true hi⟩]
  rfl
theorem sd_b_al {a n : Nat} {i : Int} (h : sd_a a 1 n) (hi : 0 ≤ i ∧ i < (n : Int)) (hop : q.2.2.2.2.2.2.lookup pc = some (.laload, 1)) (H : sd_B X d q (pc + 1) lv (.inr (.inl (M a i.toNat)) :: st) M R) : sd_B X d q pc lv (.inl i :: .inr (.inr (some a)) :: st) M R := by
  refine sd_b_1 hop rfl ?_ H
  simp only [sd_st, if_true]
  unfold sd_ald
  dsimp only
  rw [sd_rp_get, h]
  simp only [Option.map_some, sd_mk, sd_ar]
  rw [if_pos ⟨rfl, decide_eq_true hi⟩]
  rfl
theorem sd_b_ab {a t n : Nat} {i : Int} (h : sd_a a t n) (ht : t = 2 ∨ t = 3) (hi : 0 ≤ i ∧ i < (n : Int)) (hop : q.2.2.2.2.2.2.lookup pc = some (.baload, 1)) (H : sd_B X d q (pc + 1) lv (.inl (M a i.toNat) :: st) M R) : sd_B X d q pc lv (.inl i :: .inr (.inr (some a)) :: st) M R := by
  refine sd_b_1 hop rfl ?_ H
  simp only [sd_st, if_true]
  unfold sd_ald
  dsimp only
  rw [sd_rp_get, h]
  simp only [Option.map_some, sd_mk, sd_ar]
  rcases ht with rfl | rfl
  · rw [if_pos ⟨rfl, decide_eq_true hi⟩]
    rfl
  · rw [if_pos ⟨rfl, decide_eq_true hi⟩]
    rfl
theorem sd_b_ar {a ci n b k : Nat} {i : Int} (h : sd_ra a ci n b k) (hi : 0 ≤ i ∧ i < (n : Int)) (hop : q.2.2.2.2.2.2.lookup pc = some (.aaload, 1)) (H : sd_B X d q (pc + 1) lv (.inr (.inr (some (b + k * i.toNat))) :: st) M R) : sd_B X d q pc lv (.inl i :: .inr (.inr (some a)) :: st) M R := by
  refine sd_b_1 hop rfl ?_ H
  simp only [sd_st, if_true]
  unfold sd_ald
  dsimp only
  rw [sd_rp_get, h]
  simp only [Option.map_some, sd_mk, sd_rr]
  rw [if_pos ⟨decide_eq_true (Nat.le_add_right 4 ci), decide_eq_true hi⟩]
  have h1 : ¬ 4 + ci = 1 := by omega
  have h2 : i.toNat < n := by omega
  simp [sd_mka, h1, h2, sd_n]
theorem sd_up_mk {t a i : Nat} {M : sd_M} {v : Int} {u : sd_V} (hu : sd_mka t [] (fun _ => v) i = u) (ht : ¬ 4 ≤ t) : sd_up (sd_mka t [] (M a)) i u = sd_mka t [] (sd_s M a i v a) := by
  funext j
  subst hu
  unfold sd_up sd_mka sd_s
  by_cases hj : j = i
  · simp [hj]
  · simp [hj]
theorem sd_b_st {a t n : Nat} {i v : Int} {w u : sd_V} {kk : List sd_E → Nat → sd_V → Option sd_V} {ins : Jvm.ClassFile.Instr} (hs : ∀ F : sd_F, sd_st q.2.2.2.2.1 (q.1.name == "<init>") q.2.2.1 q.2.2.2.1 ins 1 F = sd_ast (kk F.2.2.2.1) F) (hcl : sd_cl q.2.2.2.2.1 ins 1 = none) (hk : ∀ E, kk E t w = some u) (hu : sd_mka t [] (fun _ => v) i.toNat = u) (ht : ¬ 4 ≤ t) (h : sd_a a t n) (hi : 0 ≤ i ∧ i < (n : Int)) (hop : q.2.2.2.2.2.2.lookup pc = some (ins, 1)) (H : sd_B X d q (pc + 1) lv st (sd_s M a i.toNat v) R) : sd_B X d q pc lv (w :: .inl i :: .inr (.inr (some a)) :: st) M R := by
  refine sd_b_1 hop hcl ?_ H
  rw [hs]
  unfold sd_ast
  dsimp only
  rw [sd_rp_get, h]
  simp only [Option.map_some, sd_mk, sd_ar]
  rw [hk]
  dsimp only
  rw [if_pos (show sd_in i n = true from decide_eq_true hi), sd_up_mk hu ht]
  have := sd_rp_set (M := M) (N := sd_s M a i.toNat v) (s := sd_ar t n) h sd_s_ne
  simp only [sd_ar, sd_mk] at this
  rw [sd_nm]
  dsimp only
  rw [this]
theorem sd_b_si {a n : Nat} {i v : Int} (h : sd_a a 0 n) (hi : 0 ≤ i ∧ i < (n : Int)) (hop : q.2.2.2.2.2.2.lookup pc = some (.iastore, 1)) (H : sd_B X d q (pc + 1) lv st (sd_s M a i.toNat v) R) : sd_B X d q pc lv (.inl v :: .inl i :: .inr (.inr (some a)) :: st) M R :=
  sd_b_st (kk := fun _ => sd_kI) (v := v) (fun _ => rfl) rfl (fun _ => rfl) rfl (by decide) h hi hop H
theorem sd_b_sl {a n : Nat} {i v : Int} (h : sd_a a 1 n) (hi : 0 ≤ i ∧ i < (n : Int)) (hop : q.2.2.2.2.2.2.lookup pc = some (.lastore, 1)) (H : sd_B X d q (pc + 1) lv st (sd_s M a i.toNat v) R) : sd_B X d q pc lv (.inr (.inl v) :: .inl i :: .inr (.inr (some a)) :: st) M R :=
  sd_b_st (kk := fun _ => sd_kL) (v := v) (fun _ => rfl) rfl (fun _ => rfl) rfl (by decide) h hi hop H
theorem sd_b_sb {a n : Nat} {i v : Int} (h : sd_a a 2 n) (hi : 0 ≤ i ∧ i < (n : Int)) (hop : q.2.2.2.2.2.2.lookup pc = some (.bastore, 1)) (H : sd_B X d q (pc + 1) lv st (sd_s M a i.toNat (v.bmod 256)) R) : sd_B X d q pc lv (.inl v :: .inl i :: .inr (.inr (some a)) :: st) M R :=
  sd_b_st (kk := fun _ => sd_kB) (v := v.bmod 256) (fun _ => rfl) rfl (fun _ => rfl) rfl (by decide) h hi hop H
theorem sd_b_sz {a n : Nat} {i v : Int} (h : sd_a a 3 n) (hv : v = 0 ∨ v = 1) (hi : 0 ≤ i ∧ i < (n : Int)) (hop : q.2.2.2.2.2.2.lookup pc = some (.bastore, 1)) (H : sd_B X d q (pc + 1) lv st (sd_s M a i.toNat v) R) : sd_B X d q pc lv (.inl v :: .inl i :: .inr (.inr (some a)) :: st) M R :=
  sd_b_st (kk := fun _ => sd_kB) (v := v) (fun _ => rfl) rfl (fun _ => by simp only [sd_kB]; exact if_pos hv) rfl (by decide) h hi hop H
theorem sd_prim7 {pc : Nat} {lv : List (Nat × sd_V)} {n dp sp : Int} {a b k l : Nat} {r : List sd_V} {E : List sd_E} : sd_prim (pc, lv, .inl n :: .inl dp :: .inr (.inr (some b)) :: .inl sp :: .inr (.inr (some a)) :: r, E, k, l) 7 = (match E[a]?, E[b]? with
    | some (.inr (0, n0, f)), some (.inr (0, n1, g)) => if sd_sum r ≤ 8 ∧ 0 ≤ n ∧ 0 ≤ sp ∧ 0 ≤ dp ∧ sp + n ≤ (n0 : Int) ∧ dp + n ≤ (n1 : Int) then sd_nm (pc, lv, .inl n :: .inl dp :: .inr (.inr (some b)) :: .inl sp :: .inr (.inr (some a)) :: r, E, k, l) (pc + 3) r (E.set b (.inr (0, n1, va_cpy f g sp.toNat dp.toNat n.toNat))) else none
    | _, _ => none) := rfl
theorem sd_b_cp {a b n0 n1 : Nat} {n : Nat} {i j : Nat} (h0 : sd_a a 0 n0) (h1 : sd_a b 0 n1) (hn0 : n ≤ n0) (hn1 : n ≤ n1) (h8 : sd_sum st ≤ 8) (hop : q.2.2.2.2.2.2.lookup pc = some (.invokestatic i, 3)) (hml : sd_mlT.lookup (q.2.2.2.2.1, i) = some (7, j)) (H : sd_B X d q (pc + 3) lv st (sd_cp M a b n) R) : sd_B X d q pc lv (.inl (n : Int) :: .inl 0 :: .inr (.inr (some b)) :: .inl 0 :: .inr (.inr (some a)) :: st) M R := by
  refine sd_b_1 hop (by unfold sd_cl; dsimp only; rw [hml]; rfl) ?_ H
  simp only [sd_st]
  rw [hml]
  dsimp only
  rw [if_pos ⟨trivial, by decide⟩]
  rw [sd_prim7]
  rw [sd_rp_get, sd_rp_get, h0, h1]
  simp only [Option.map_some, sd_mk, sd_ar]
  rw [if_pos ⟨h8, by omega, by decide, by decide, by omega, by omega⟩]
  have := sd_rp_set (M := M) (N := sd_cp M a b n) (s := sd_ar 0 n1) h1 sd_cp_ne
  simp only [sd_ar, sd_mk] at this
  rw [sd_nm]
  dsimp only
  rw [← this]
  have e : va_cpy (sd_mka 0 [] (M a)) (sd_mka 0 [] (M b)) (0 : Int).toNat (0 : Int).toNat ((n : Int)).toNat = sd_mka 0 [] (sd_cp M a b n b) := by
    funext k
    unfold va_cpy sd_mka sd_cp
    by_cases hk : k < n
    · simp [hk]
    · simp [hk]
  rw [e]
/-- branches -/
theorem sd_b_ct {c : Jvm.ClassFile.Cond} {off x y : Int} {tgt : Nat} (hop : q.2.2.2.2.2.2.lookup pc = some (.if_icmp c off, 3)) (hc : sd_cnd c x y = true) (ht : (pc : Int) + off = (tgt : Int)) (H : sd_B X d q tgt lv st M R) : sd_B X d q pc lv (.inl y :: .inl x :: st) M R := by
  refine sd_b_1 hop rfl ?_ H
  simp only [sd_st, if_true, sd_br]
  rw [if_pos (by omega), if_pos hc, ht]
  rfl
theorem sd_b_cf {c : Jvm.ClassFile.Cond} {off x y : Int} (hop : q.2.2.2.2.2.2.lookup pc = some (.if_icmp c off, 3)) (hc : sd_cnd c x y = false) (ht : 0 ≤ (pc : Int) + off) (H : sd_B X d q (pc + 3) lv st M R) : sd_B X d q pc lv (.inl y :: .inl x :: st) M R := by
  refine sd_b_1 hop rfl ?_ H
  simp only [sd_st, if_true, sd_br]
  rw [if_pos ht, if_neg (by rw [hc]; decide)]
  rfl
theorem sd_b_zt {c : Jvm.ClassFile.Cond} {off x : Int} {tgt : Nat} (hop : q.2.2.2.2.2.2.lookup pc = some (.ifCond c off, 3)) (hc : sd_cnd c x 0 = true) (ht : (pc : Int) + off = (tgt : Int)) (H : sd_B X d q tgt lv st M R) : sd_B X d q pc lv (.inl x :: st) M R := by
  refine sd_b_1 hop rfl ?_ H
  simp only [sd_st, if_true, sd_br]
  rw [if_pos (by omega), if_pos hc, ht]
  rfl
theorem sd_b_zf {c : Jvm.ClassFile.Cond} {off x : Int} (hop : q.2.2.2.2.2.2.lookup pc = some (.ifCond c off, 3)) (hc : sd_cnd c x 0 = false) (ht : 0 ≤ (pc : Int) + off) (H : sd_B X d q (pc + 3) lv st M R) : sd_B X d q pc lv (.inl x :: st) M R := by
  refine sd_b_1 hop rfl ?_ H
  simp only [sd_st, if_true, sd_br]
  rw [if_pos ht, if_neg (by rw [hc]; decide)]
  rfl
theorem sd_b_td {dd lo hi x : Int} {offs : Array Int} {len tgt : Nat} (hop : q.2.2.2.2.2.2.lookup pc = some (.tableswitch dd lo hi offs, len)) (hx : x < lo ∨ hi < x) (ht : (pc : Int) + dd = (tgt : Int)) (H : sd_B X d q tgt lv st M R) : sd_B X d q pc lv (.inl x :: st) M R := by
  refine sd_b_1 hop rfl ?_ H
  simp only [sd_st]
  rw [if_pos hx]
  unfold sd_j
  dsimp only
  rw [if_pos (by omega), ht]
  rfl
theorem sd_b_ld {dd x : Int} {ps : Array (Int × Int)} {len tgt : Nat} (hop : q.2.2.2.2.2.2.lookup pc = some (.lookupswitch dd ps, len)) (hp : (ps.toList.zip (ps.toList.drop 1)).all (fun (a, next) => a.1 < next.1) = true) (hx : Op.lookupswitch.offset ps.toList dd x = dd) (ht : (pc : Int) + dd = (tgt : Int)) (H : sd_B X d q tgt lv st M R) : sd_B X d q pc lv (.inl x :: st) M R := by
  refine sd_b_1 hop rfl ?_ H
  simp only [sd_st]
  rw [if_pos hp, hx]
  unfold sd_j
  dsimp only
  rw [if_pos (by omega), ht]
  rfl
theorem sd_b_dz {x y : Int} (hne : y ≠ 0) {z : Int} (hop : q.2.2.2.2.2.2.lookup pc = some (.idiv, 1)) (hz : z = sd_w (x.tdiv y)) (H : sd_B X d q (pc + 1) lv (.inl z :: st) M R) : sd_B X d q pc lv (.inl y :: .inl x :: st) M R := by
  subst hz
  refine sd_b_1 hop rfl ?_ H
  simp only [sd_st, if_true, sd_i2z]
  rw [if_neg hne]
  rfl
theorem sd_b_mz {x y : Int} (hne : y ≠ 0) (hop : q.2.2.2.2.2.2.lookup pc = some (.irem, 1)) (H : sd_B X d q (pc + 1) lv (.inl (x.tmod y) :: st) M R) : sd_B X d q pc lv (.inl y :: .inl x :: st) M R := by
  refine sd_b_1 hop rfl ?_ H
  simp only [sd_st, if_true, sd_i2z]
  rw [if_neg hne]
  rfl
theorem sd_b_ldz {x y : Int} (hne : y ≠ 0) (hop : q.2.2.2.2.2.2.lookup pc = some (.ldiv, 1)) (H : sd_B X d q (pc + 1) lv (.inr (.inl (sd_wl (x.tdiv y))) :: st) M R) : sd_B X d q pc lv (.inr (.inl y) :: .inr (.inl x) :: st) M R := by
  refine sd_b_1 hop rfl ?_ H
  simp only [sd_st, if_true, sd_l2z]
  rw [if_neg hne]
  rfl
theorem sd_b_lmz {x y : Int} (hne : y ≠ 0) (hop : q.2.2.2.2.2.2.lookup pc = some (.lrem, 1)) (H : sd_B X d q (pc + 1) lv (.inr (.inl (x.tmod y)) :: st) M R) : sd_B X d q pc lv (.inr (.inl y) :: .inr (.inl x) :: st) M R := by
  refine sd_b_1 hop rfl ?_ H
  simp only [sd_st, if_true, sd_l2z]
  rw [if_neg hne]
  rfl
/-- an int on the stack by another name -/
theorem sd_b_eq {x y : Int} (h : x = y) (H : sd_B X d q pc lv (.inl y :: st) M R) : sd_B X d q pc lv (.inl x :: st) M R := h ▸ H
/-- calls -/
theorem sd_b_call {ins : Jvm.ClassFile.Instr} {k j : Nat} {qj : sd_MI} (As r : List sd_V) {rv : Option sd_V} {M2 : sd_M} (hop : q.2.2.2.2.2.2.lookup pc = some (ins, 3)) (hcl : sd_cl q.2.2.2.2.1 ins 3 = some (k, j)) (hq : sd_mL[j]? = some qj) (hs : st = As.reverse ++ r) (hn : As.length = qj.2.2.2.2.2.1 + (if k = 0 ∨ k = 2 then 1 else 0)) (h8 : sd_sum r ≤ 8) (hrc : sd_rc k qj.2.2.2.2.1 (sd_rp M) As = true) (hC : sd_Cal X d j As (sd_rp M) (rv, sd_rp M2, 0, 0)) (H : sd_B X d q (pc + 3) lv (rv.toList ++ r) M2 R) : sd_B X d q pc lv st M R := by
  obtain ⟨n, h⟩ := H
  refine ⟨n + 1, Or.inl (Or.inl ⟨.inl (pc + 3, lv, rv.toList ++ r, sd_rp M2, 0, 0), ?_, h⟩)⟩
  unfold sd_sR
  rw [hop]
  dsimp only
  rw [hcl]
  exact ⟨qj, As, r, (rv, sd_rp M2, 0, 0), hq, hs, hn, h8, hrc, hC, by simp⟩
theorem sd_rc_v {a ci : Nat} {l : List sd_V} (h : sd_o a ci) : sd_rc 0 ci (sd_rp M) (.inr (.inr (some a)) :: l) = true := by
  unfold sd_rc
  dsimp only
  rw [if_pos rfl, sd_rp_get, h]
  simp [sd_mk, sd_ob]
/-- the method: its locals at the begin -/
theorem sd_cal_of {j : Nat} {As : List sd_V} (hq : sd_mL[j]? = some q) (hn : sd_sum As ≤ q.2.2.1) (H : sd_B X d q 0 (sd_en 0 As) [] M R) : sd_Cal X (d + 1) j As (sd_rp M) R := by
  obtain ⟨n, h⟩ := H
  exact Or.inr ⟨q, n, hq, hn, h⟩
end SdLift
theorem sd_bnd {α β : Type} {x : Option α} {f : α → Option β} {y : β} (h : x.bind f = some y) : ∃ a, x = some a ∧ f a = some y := by
  cases x with
  | none => cases h
  | some a => exact ⟨a, rfl, h⟩
/-- no method is taken as given -/
def sd_X : Nat → List sd_V → List sd_E → sd_A → Prop := fun _ _ _ _ => False
