/-! the constructors: our machine over a row E ++ L of cells, of which L is new -/
def sd_D (d : Nat) (q : sd_MI) (pc : Nat) (lv : List (Nat × sd_V)) (st : List sd_V) (E : List sd_E) (k n : Nat) (R : sd_A) : Prop := ∃ m, sd_Ex (sd_Cal sd_X d) q m (pc, lv, st, E, k, n) R
def sd_df (ci : Nat) : List sd_V := (List.range (sd_nf ci)).map (fun k => sd_dv (sd_ty ci k))
theorem sd_ag {α : Type} {E L : List α} {b k : Nat} (hb : E.length = b) : (E ++ L)[b + k]? = L[k]? := by
  subst hb
  rw [List.getElem?_append_right (Nat.le_add_right _ _), Nat.add_sub_cancel_left]
theorem sd_as {α : Type} {E L : List α} {b k : Nat} {c : α} (hb : E.length = b) : (E ++ L).set (b + k) c = E ++ L.set k c := by
  subst hb
  rw [List.set_append_right _ _ (Nat.le_add_right _ _), Nat.add_sub_cancel_left]
section SdCons
variable {d : Nat} {q : sd_MI} {pc : Nat} {lv : List (Nat × sd_V)} {st : List sd_V} {E L : List sd_E} {k n b : Nat} {R : sd_A}
theorem sd_d_1 {pc2 : Nat} {lv2 : List (Nat × sd_V)} {st2 : List sd_V} {E2 : List sd_E} {k2 n2 : Nat} {ins : Jvm.ClassFile.Instr} {len : Nat} (hop : q.2.2.2.2.2.2.lookup pc = some (ins, len)) (hcl : sd_cl q.2.2.2.2.1 ins len = none) (hst : sd_st q.2.2.2.2.1 (q.1.name == "<init>") q.2.2.1 q.2.2.2.1 ins len (pc, lv, st, E, k, n) = some (.inl (pc2, lv2, st2, E2, k2, n2))) (H : sd_D d q pc2 lv2 st2 E2 k2 n2 R) : sd_D d q pc lv st E k n R := by
  obtain ⟨m, h⟩ := H
  exact ⟨m + 1, sd_b_ex hop hcl hst h⟩
theorem sd_d_go (m : Nat) {pc2 : Nat} {lv2 : List (Nat × sd_V)} {st2 : List sd_V} (h : sd_go q m (pc, lv, st, E, k, n) = some (pc2, lv2, st2, E, k, n)) (H : sd_D d q pc2 lv2 st2 E k n R) : sd_D d q pc lv st E k n R := by
  obtain ⟨m2, hm⟩ := H
  exact sd_go_ex hm m _ h
theorem sd_d_rt {ins : Jvm.ClassFile.Instr} {len : Nat} (hop : q.2.2.2.2.2.2.lookup pc = some (ins, len)) (hcl : sd_cl q.2.2.2.2.1 ins len = none) (hst : sd_st q.2.2.2.2.1 (q.1.name == "<init>") q.2.2.1 q.2.2.2.1 ins len (pc, lv, st, E, k, n) = some (.inr R)) : sd_D d q pc lv st E k n R :=
  ⟨1, Or.inl (Or.inl ⟨.inr R, by unfold sd_sR; rw [hop]; dsimp only; rw [hcl]; exact hst, rfl⟩)⟩
theorem sd_c_newa {ak : ArrayType} {t : Nat} {dv : sd_V} {z : Int} {L2 : List sd_E} {a : Nat} (hb : E.length = b) (hop : q.2.2.2.2.2.2.lookup pc = some (.newarray ak, 2)) (hat : sd_at ak = some (t, dv)) (hz : 0 ≤ z ∧ z ≤ 60000000) (hL : L ++ [.inr (t, z.toNat, fun _ => dv)] = L2) (ha : b + L.length = a) (H : sd_D d q (pc + 2) lv (.inr (.inr (some a)) :: st) (E ++ L2) (k + 1) (n + z.toNat) R) : sd_D d q pc lv (.inl z :: st) (E ++ L) k n R := by
  subst hL
  refine sd_d_1 hop rfl ?_ H
  simp only [sd_st, if_true, sd_newa, hat]
  rw [if_pos hz]
  simp [sd_nc, hb, ha]
theorem sd_c_anew {i ci : Nat} {z : Int} {L2 : List sd_E} {a : Nat} (hb : E.length = b) (hop : q.2.2.2.2.2.2.lookup pc = some (.anewarray i, 3)) (hal : sd_alT.lookup (q.2.2.2.2.1, i) = some ci) (hz : 0 ≤ z ∧ z ≤ 60000000) (hL : L ++ [.inr (4 + ci, z.toNat, fun _ => .inr (.inr none))] = L2) (ha : b + L.length = a) (H : sd_D d q (pc + 3) lv (.inr (.inr (some a)) :: st) (E ++ L2) (k + 1) (n + z.toNat) R) : sd_D d q pc lv (.inl z :: st) (E ++ L) k n R := by
  subst hL
  refine sd_d_1 hop rfl ?_ H
  simp only [sd_st, if_true, sd_newa, hal, Option.map_some]
  rw [if_pos hz]
  simp [sd_nc, hb, ha]
theorem sd_c_new {i ci : Nat} {L2 : List sd_E} {a : Nat} (hb : E.length = b) (hop : q.2.2.2.2.2.2.lookup pc = some (.new i, 3)) (hnl : sd_nlT.lookup (q.2.2.2.2.1, i) = some ci) (hall : (List.range (sd_nf ci)).all (fun k => sd_tk (sd_ty ci k)) = true) (hL : L ++ [.inl (ci, sd_df ci)] = L2) (ha : b + L.length = a) (H : sd_D d q (pc + 3) lv (.inr (.inr (some a)) :: st) (E ++ L2) (k + 1) (n + sd_nf ci) R) : sd_D d q pc lv st (E ++ L) k n R := by
  subst hL
  refine sd_d_1 hop rfl ?_ H
  simp only [sd_st, if_true, hnl, sd_new]
  rw [if_pos hall]
  simp [sd_nc, hb, ha, sd_df]
theorem sd_c_put {i ci s : Nat} {v : sd_V} {fs : List sd_V} {L2 : List sd_E} (j : Nat) (hb : E.length = b) (hop : q.2.2.2.2.2.2.lookup pc = some (.putfield i, 3)) (hfl : sd_flT.lookup (q.2.2.2.2.1, i) = some (ci, s)) (hj : L[j]? = some (.inl (ci, fs))) (hs : s < fs.length) (hfit : sd_fit (sd_ty ci s) v = true) (hfin : (q.1.name == "<init>") = true ∧ ci = q.2.2.2.2.1) (hL : L.set j (.inl (ci, fs.set s v)) = L2) (H : sd_D d q (pc + 3) lv st (E ++ L2) k n R) : sd_D d q pc lv (v :: .inr (.inr (some (b + j))) :: st) (E ++ L) k n R := by
  subst hL
  refine sd_d_1 hop rfl ?_ H
  simp only [sd_st, if_true, sd_put, hfl]
  rw [sd_ag hb, hj]
  dsimp only
  rw [if_pos ⟨rfl, hs, hfit, Or.inr hfin⟩, sd_as hb]
  rfl
theorem sd_c_get {i ci s : Nat} {v : sd_V} {fs : List sd_V} (j : Nat) (hb : E.length = b) (hop : q.2.2.2.2.2.2.lookup pc = some (.getfield i, 3)) (hfl : sd_flT.lookup (q.2.2.2.2.1, i) = some (ci, s)) (hj : L[j]? = some (.inl (ci, fs))) (hv : fs[s]? = some v) (H : sd_D d q (pc + 3) lv (v :: st) (E ++ L) k n R) : sd_D d q pc lv (.inr (.inr (some (b + j))) :: st) (E ++ L) k n R := by
  refine sd_d_1 hop rfl ?_ H
  simp only [sd_st, if_true, sd_get, hfl]
  rw [sd_ag hb, hj]
  dsimp only
  rw [if_pos rfl, hv]
  rfl
theorem sd_c_aast {t m : Nat} {f : Nat → sd_V} {ci : Nat} {fs : List sd_V} {i : Int} {L2 : List sd_E} (j1 j2 : Nat) (hb : E.length = b) (hop : q.2.2.2.2.2.2.lookup pc = some (.aastore, 1)) (hj1 : L[j1]? = some (.inr (t, m, f))) (hj2 : L[j2]? = some (.inl (ci, fs))) (ht : t = 4 + ci) (hi : 0 ≤ i ∧ i < (m : Int)) (hL : L.set j1 (.inr (t, m, sd_up f i.toNat (.inr (.inr (some (b + j2)))))) = L2) (H : sd_D d q (pc + 1) lv st (E ++ L2) k n R) : sd_D d q pc lv (.inr (.inr (some (b + j2))) :: .inl i :: .inr (.inr (some (b + j1))) :: st) (E ++ L) k n R := by
  subst hL
  refine sd_d_1 hop rfl ?_ H
  simp only [sd_st, if_true, sd_ast]
  rw [sd_ag hb, hj1]
  dsimp only
  have hk : sd_kA (E ++ L) t (.inr (.inr (some (b + j2)))) = some (.inr (.inr (some (b + j2)))) := by
    unfold sd_kA
    dsimp only
    rw [sd_ag hb, hj2]
    exact if_pos ht
  rw [hk]
  dsimp only
  rw [if_pos (show sd_in i m = true from decide_eq_true hi), sd_as hb]
  rfl
/-- a constructor is called -/
theorem sd_c_init {i j : Nat} {qj : sd_MI} {a : Nat} {E2 : List sd_E} {kc ks : Nat} (hop : q.2.2.2.2.2.2.lookup pc = some (.invokespecial i, 3)) (hcl : sd_cl q.2.2.2.2.1 (.invokespecial i) 3 = some (2, j)) (hq : sd_mL[j]? = some qj) (hn : qj.2.2.2.2.2.1 = 0) (h8 : sd_sum st ≤ 8) (hC : sd_Cal sd_X d j [.inr (.inr (some a))] E (none, E2, kc, ks)) (H : sd_D d q (pc + 3) lv st E2 (k + kc) (n + ks) R) : sd_D d q pc lv (.inr (.inr (some a)) :: st) E k n R := by
  obtain ⟨m, h⟩ := H
  refine ⟨m + 1, Or.inl (Or.inl ⟨.inl (pc + 3, lv, st, E2, k + kc, n + ks), ?_, h⟩)⟩
  unfold sd_sR
  rw [hop]
  dsimp only
  rw [hcl]
  exact ⟨qj, [.inr (.inr (some a))], st, (none, E2, kc, ks), hq, rfl, by rw [hn]; rfl, h8, rfl, hC, rfl⟩
theorem sd_d_of {j : Nat} {As : List sd_V} (hq : sd_mL[j]? = some q) (hn : sd_sum As ≤ q.2.2.1) (H : sd_D d q 0 (sd_en 0 As) [] E 0 0 R) : sd_Cal sd_X (d + 1) j As E R := by
  obtain ⟨m, h⟩ := H
  exact Or.inr ⟨q, m, hq, hn, h⟩
end SdCons
def sd_zi (n : Nat) : sd_E := .inr (0, n, fun _ => .inl 0)
def sd_zl (n : Nat) : sd_E := .inr (1, n, fun _ => .inr (.inl 0))
def sd_zb (n : Nat) : sd_E := .inr (2, n, fun _ => .inl 0)
def sd_zz (n : Nat) : sd_E := .inr (3, n, fun _ => .inl 0)
