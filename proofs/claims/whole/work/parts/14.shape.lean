/-! the cells behind both constructors: their shape never changes; M holds the numbers -/
abbrev sd_M : Type := Nat → Nat → Int
/-- an object: its class, its fields (a reference, an int, a long); an array: kind, length, references -/
abbrev sd_S : Type := (Nat × List (Nat ⊕ Bool)) ⊕ (Nat × Nat × List Nat)
/-- the fields of a class: a reference lies so far behind the object itself -/
def sd_ks : Nat → List (Nat ⊕ Bool) := fun ci => match ci with
  | 0 => [.inr false, .inr false, .inr false, .inr false, .inr false, .inl 1, .inl 2, .inl 3, .inl 4, .inl 5, .inl 6, .inl 7]
  | 1 => [.inl 1]
  | 2 => [.inl 1, .inl 8, .inl 16, .inr false, .inr false]
  | 3 => [.inr false, .inl 1, .inl 2]
  | 4 => [.inr false, .inr false, .inl 1, .inl 2, .inl 3, .inl 4, .inl 5, .inl 6]
  | 5 => [.inr false]
  | 6 => [.inl 1]
  | 7 => [.inl 1, .inr false, .inr false, .inr false, .inr false, .inl 2, .inl 3, .inl 4]
  | 8 => [.inr false, .inr false, .inr false, .inl 1, .inl 2, .inl 3, .inr false, .inl 4, .inl 5, .inl 6]
  | 9 => [.inl 1, .inl 6, .inl 14, .inl 15, .inr false, .inl 58, .inl 77, .inl 154, .inl 155, .inr false, .inr false, .inl 316, .inl 318, .inl 326, .inl 327, .inl 328, .inl 329, .inl 330]
  | 10 => [.inl 1, .inr false, .inr false, .inl 2, .inl 3, .inl 4, .inl 5, .inl 6, .inr false, .inr false, .inr false, .inr false, .inr false, .inr false, .inr false, .inl 7, .inr false, .inl 8, .inr false, .inl 9, .inl 10, .inr false, .inr false, .inl 11, .inl 12, .inl 13, .inl 14, .inr false, .inl 15, .inl 16, .inl 17, .inl 18, .inr false, .inr false, .inr false, .inl 19, .inl 20, .inl 21, .inr true, .inl 22, .inl 23, .inl 24, .inl 25]
  | _ => []
def sd_sf (a : Nat) (x : Nat ⊕ Bool) : Nat ⊕ Bool := match x with
  | .inl k => .inl (a + k)
  | .inr b => .inr b
def sd_ob (a ci : Nat) : sd_S := .inl (ci, (sd_ks ci).map (sd_sf a))
def sd_ar (t n : Nat) : sd_S := .inr (t, n, [])
def sd_rr (ci n b k : Nat) : sd_S := .inr (4 + ci, n, (List.range n).map (fun i => b + k * i))
def sd_sh : List sd_S := [sd_ob 0 9, sd_ob 1 7, sd_ar 2 400, sd_ar 0 401, sd_ar 0 401, sd_ar 0 401, sd_ob 6 6, sd_ob 7 8, sd_ar 0 9, sd_ar 0 9, sd_ar 0 9, sd_ar 0 12, sd_ar 0 12, sd_ar 0 12, sd_ob 14 5, sd_rr 4 6 16 7, sd_ob 16 4, sd_ar 0 12, sd_ar 0 12, sd_ar 0 12, sd_ar 0 400, sd_ar 0 400, sd_ar 1 64, sd_ob 23 4, sd_ar 0 12, sd_ar 0 12, sd_ar 0 12, sd_ar 0 400, sd_ar 0 400, sd_ar 1 64, sd_ob 30 4, sd_ar 0 12, sd_ar 0 12, sd_ar 0 12, sd_ar 0 400, sd_ar 0 400, sd_ar 1 64, sd_ob 37 4, sd_ar 0 12, sd_ar 0 12, sd_ar 0 12, sd_ar 0 400, sd_ar 0 400, sd_ar 1 64, sd_ob 44 4, sd_ar 0 12, sd_ar 0 12, sd_ar 0 12, sd_ar 0 400, sd_ar 0 400, sd_ar 1 64, sd_ob 51 4, sd_ar 0 12, sd_ar 0 12, sd_ar 0 12, sd_ar 0 400, sd_ar 0 400, sd_ar 1 64, sd_ob 58 2, sd_ob 59 8, sd_ar 0 9, sd_ar 0 9, sd_ar 0 9, sd_ar 0 12, sd_ar 0 12, sd_ar 0 12, sd_ob 66 0, sd_ar 0 9, sd_ar 0 9, sd_ar 0 9, sd_ar 0 9, sd_ar 0 9, sd_ar 0 9, sd_ar 0 9, sd_ob 74 3, sd_ar 0 10, sd_ar 0 10, sd_rr 2 4 78 19, sd_ob 78 2, sd_ob 79 8, sd_ar 0 9, sd_ar 0 9, sd_ar 0 9, sd_ar 0 12, sd_ar 0 12, sd_ar 0 12, sd_ob 86 0, sd_ar 0 9, sd_ar 0 9, sd_ar 0 9, sd_ar 0 9, sd_ar 0 9, sd_ar 0 9, sd_ar 0 9, sd_ob 94 3, sd_ar 0 10, sd_ar 0 10, sd_ob 97 2, sd_ob 98 8, sd_ar 0 9, sd_ar 0 9, sd_ar 0 9, sd_ar 0 12, sd_ar 0 12, sd_ar 0 12, sd_ob 105 0, sd_ar 0 9, sd_ar 0 9, sd_ar 0 9, sd_ar 0 9, sd_ar 0 9, sd_ar 0 9, sd_ar 0 9, sd_ob 113 3, sd_ar 0 10, sd_ar 0 10, sd_ob 116 2, sd_ob 117 8, sd_ar 0 9, sd_ar 0 9, sd_ar 0 9, sd_ar 0 12, sd_ar 0 12, sd_ar 0 12, sd_ob 124 0, sd_ar 0 9, sd_ar 0 9, sd_ar 0 9, sd_ar 0 9, sd_ar 0 9, sd_ar 0 9, sd_ar 0 9, sd_ob 132 3, sd_ar 0 10, sd_ar 0 10, sd_ob 135 2, sd_ob 136 8, sd_ar 0 9, sd_ar 0 9, sd_ar 0 9, sd_ar 0 12, sd_ar 0 12, sd_ar 0 12, sd_ob 143 0, sd_ar 0 9, sd_ar 0 9, sd_ar 0 9, sd_ar 0 9, sd_ar 0 9, sd_ar 0 9, sd_ar 0 9, sd_ob 151 3, sd_ar 0 10, sd_ar 0 10, sd_ar 3 4, sd_rr 0 20 156 8, sd_ob 156 0, sd_ar 0 9, sd_ar 0 9, sd_ar 0 9, sd_ar 0 9, sd_ar 0 9, sd_ar 0 9, sd_ar 0 9, sd_ob 164 0, sd_ar 0 9, sd_ar 0 9, sd_ar 0 9, sd_ar 0 9, sd_ar 0 9, sd_ar 0 9, sd_ar 0 9, sd_ob 172 0, sd_ar 0 9, sd_ar 0 9, sd_ar 0 9, sd_ar 0 9, sd_ar 0 9, sd_ar 0 9, sd_ar 0 9, sd_ob 180 0, sd_ar 0 9, sd_ar 0 9, sd_ar 0 9, sd_ar 0 9, sd_ar 0 9, sd_ar 0 9, sd_ar 0 9, sd_ob 188 0, sd_ar 0 9, sd_ar 0 9, sd_ar 0 9, sd_ar 0 9, sd_ar 0 9, sd_ar 0 9, sd_ar 0 9, sd_ob 196 0, sd_ar 0 9, sd_ar 0 9, sd_ar 0 9, sd_ar 0 9, sd_ar 0 9, sd_ar 0 9, sd_ar 0 9, sd_ob 204 0, sd_ar 0 9, sd_ar 0 9, sd_ar 0 9, sd_ar 0 9, sd_ar 0 9, sd_ar 0 9, sd_ar 0 9, sd_ob 212 0, sd_ar 0 9, sd_ar 0 9, sd_ar 0 9, sd_ar 0 9, sd_ar 0 9, sd_ar 0 9, sd_ar 0 9, sd_ob 220 0, sd_ar 0 9, sd_ar 0 9, sd_ar 0 9, sd_ar 0 9, sd_ar 0 9, sd_ar 0 9, sd_ar 0 9, sd_ob 228 0, sd_ar 0 9, sd_ar 0 9, sd_ar 0 9, sd_ar 0 9, sd_ar 0 9, sd_ar 0 9, sd_ar 0 9, sd_ob 236 0, sd_ar 0 9, sd_ar 0 9, sd_ar 0 9, sd_ar 0 9, sd_ar 0 9, sd_ar 0 9, sd_ar 0 9, sd_ob 244 0, sd_ar 0 9, sd_ar 0 9, sd_ar 0 9, sd_ar 0 9, sd_ar 0 9, sd_ar 0 9, sd_ar 0 9, sd_ob 252 0, sd_ar 0 9, sd_ar 0 9, sd_ar 0 9, sd_ar 0 9, sd_ar 0 9, sd_ar 0 9, sd_ar 0 9, sd_ob 260 0, sd_ar 0 9, sd_ar 0 9, sd_ar 0 9, sd_ar 0 9, sd_ar 0 9, sd_ar 0 9, sd_ar 0 9, sd_ob 268 0, sd_ar 0 9, sd_ar 0 9, sd_ar 0 9, sd_ar 0 9, sd_ar 0 9, sd_ar 0 9, sd_ar 0 9, sd_ob 276 0, sd_ar 0 9, sd_ar 0 9, sd_ar 0 9, sd_ar 0 9, sd_ar 0 9, sd_ar 0 9, sd_ar 0 9, sd_ob 284 0, sd_ar 0 9, sd_ar 0 9, sd_ar 0 9, sd_ar 0 9, sd_ar 0 9, sd_ar 0 9, sd_ar 0 9, sd_ob 292 0, sd_ar 0 9, sd_ar 0 9, sd_ar 0 9, sd_ar 0 9, sd_ar 0 9, sd_ar 0 9, sd_ar 0 9, sd_ob 300 0, sd_ar 0 9, sd_ar 0 9, sd_ar 0 9, sd_ar 0 9, sd_ar 0 9, sd_ar 0 9, sd_ar 0 9, sd_ob 308 0, sd_ar 0 9, sd_ar 0 9, sd_ar 0 9, sd_ar 0 9, sd_ar 0 9, sd_ar 0 9, sd_ar 0 9, sd_ob 316 1, sd_ar 1 11, sd_ob 318 0, sd_ar 0 9, sd_ar 0 9, sd_ar 0 9, sd_ar 0 9, sd_ar 0 9, sd_ar 0 9, sd_ar 0 9, sd_ar 0 9, sd_ar 0 4, sd_ar 0 4, sd_ar 0 217, sd_ar 0 18, sd_ob 331 10, sd_ar 2 400, sd_ar 0 2400, sd_ar 0 7, sd_ar 0 288, sd_ar 0 6, sd_ar 0 58, sd_ar 0 400, sd_ar 1 64, sd_ar 1 11, sd_ar 0 128, sd_ar 0 9, sd_ar 0 9, sd_ar 0 9, sd_ar 0 980, sd_ar 0 49, sd_ar 0 4, sd_ar 0 4, sd_ar 0 4, sd_ar 0 18, sd_ar 3 7, sd_ar 0 217, sd_ar 0 512, sd_ar 0 4, sd_ar 0 4, sd_ar 3 4]
/-- the arrays and objects that an object of a class has, by how far they lie behind it -/
def sd_ta : Nat → List (Nat × Nat × Nat) := fun ci => match ci with
  | 0 => [(1, 0, 9), (2, 0, 9), (3, 0, 9), (4, 0, 9), (5, 0, 9), (6, 0, 9), (7, 0, 9)]
  | 1 => [(1, 1, 11)]
  | 2 => []
  | 3 => [(1, 0, 10), (2, 0, 10)]
  | 4 => [(1, 0, 12), (2, 0, 12), (3, 0, 12), (4, 0, 400), (5, 0, 400), (6, 1, 64)]
  | 5 => []
  | 6 => []
  | 7 => [(1, 2, 400), (2, 0, 401), (3, 0, 401), (4, 0, 401)]
  | 8 => [(1, 0, 9), (2, 0, 9), (3, 0, 9), (4, 0, 12), (5, 0, 12), (6, 0, 12)]
  | 9 => [(154, 3, 4), (326, 0, 9), (327, 0, 4), (328, 0, 4), (329, 0, 217), (330, 0, 18)]
  | 10 => [(1, 2, 400), (2, 0, 2400), (3, 0, 7), (4, 0, 288), (5, 0, 6), (6, 0, 58), (7, 0, 400), (8, 1, 64), (9, 1, 11), (10, 0, 128), (11, 0, 9), (12, 0, 9), (13, 0, 9), (14, 0, 980), (15, 0, 49), (16, 0, 4), (17, 0, 4), (18, 0, 4), (19, 0, 18), (20, 3, 7), (21, 0, 217), (22, 0, 512), (23, 0, 4), (24, 0, 4), (25, 3, 4)]
  | _ => []
def sd_to : Nat → List (Nat × Nat) := fun ci => match ci with
  | 0 => []
  | 1 => []
  | 2 => [(1, 8), (8, 0), (16, 3)]
  | 3 => []
  | 4 => []
  | 5 => []
  | 6 => [(1, 8)]
  | 7 => []
  | 8 => []
  | 9 => [(1, 7), (6, 6), (14, 5), (58, 2), (316, 1), (318, 0)]
  | 10 => []
  | _ => []
def sd_mkf (m : Nat → Int) (k : Nat) (x : Nat ⊕ Bool) : sd_V := match x with
  | .inl a => .inr (.inr (some a))
  | .inr false => .inl (m k)
  | .inr true => .inr (.inl (m k))
def sd_mka (t : Nat) (rs : List Nat) (m : Nat → Int) (i : Nat) : sd_V := if t = 1 then .inr (.inl (m i)) else if 4 ≤ t then .inr (.inr rs[i]?) else .inl (m i)
def sd_mk (s : sd_S) (m : Nat → Int) : sd_E := match s with
  | .inl (ci, ks) => .inl (ci, ks.mapIdx (sd_mkf m))
  | .inr (t, n, rs) => .inr (t, n, sd_mka t rs m)
def sd_rp (M : sd_M) : List sd_E := sd_sh.mapIdx (fun a s => sd_mk s (M a))
abbrev sd_o (a ci : Nat) : Prop := sd_sh[a]? = some (sd_ob a ci)
abbrev sd_a (a t n : Nat) : Prop := sd_sh[a]? = some (sd_ar t n)
abbrev sd_ra (a ci n b k : Nat) : Prop := sd_sh[a]? = some (sd_rr ci n b k)
theorem sd_sh_chk : (List.range 357).all (fun a => (List.range 11).all (fun ci => !(decide (sd_sh[a]? = some (sd_ob a ci))) || ((sd_ta ci).all (fun x => decide (sd_sh[a + x.1]? = some (sd_ar x.2.1 x.2.2))) && (sd_to ci).all (fun x => decide (sd_sh[a + x.1]? = some (sd_ob (a + x.1) x.2)))))) = true := by decide +kernel
theorem sd_sh_len : sd_sh.length = 357 := by decide +kernel
theorem sd_chk {a ci : Nat} (h : sd_o a ci) (hc : ci < 11) : (sd_ta ci).all (fun x => decide (sd_sh[a + x.1]? = some (sd_ar x.2.1 x.2.2))) = true ∧ (sd_to ci).all (fun x => decide (sd_sh[a + x.1]? = some (sd_ob (a + x.1) x.2))) = true := by
  have ha : a < 357 := by rw [← sd_sh_len]; exact (List.getElem?_eq_some_iff.mp h).1
  have h1 := List.all_eq_true.mp (List.all_eq_true.mp sd_sh_chk a (List.mem_range.mpr ha)) ci (List.mem_range.mpr hc)
  have h2 : decide (sd_sh[a]? = some (sd_ob a ci)) = true := decide_eq_true h
  rw [h2] at h1
  simpa only [Bool.not_true, Bool.false_or, Bool.and_eq_true] using h1
theorem sd_oa {a ci off t n : Nat} (h : sd_o a ci) (hc : ci < 11) (hm : (off, t, n) ∈ sd_ta ci) : sd_a (a + off) t n := of_decide_eq_true (List.all_eq_true.mp (sd_chk h hc).1 _ hm)
theorem sd_oo {a ci off c2 : Nat} (h : sd_o a ci) (hc : ci < 11) (hm : (off, c2) ∈ sd_to ci) : sd_o (a + off) c2 := of_decide_eq_true (List.all_eq_true.mp (sd_chk h hc).2 _ hm)
theorem sd_o_0 : sd_o 0 9 := by decide +kernel
theorem sd_o_1 : sd_o 1 7 := by decide +kernel
theorem sd_o_6 : sd_o 6 6 := by decide +kernel
theorem sd_o_7 : sd_o 7 8 := by decide +kernel
theorem sd_o_14 : sd_o 14 5 := by decide +kernel
theorem sd_o_58 : sd_o 58 2 := by decide +kernel
theorem sd_o_59 : sd_o 59 8 := by decide +kernel
theorem sd_o_66 : sd_o 66 0 := by decide +kernel
theorem sd_o_74 : sd_o 74 3 := by decide +kernel
theorem sd_o_316 : sd_o 316 1 := by decide +kernel
theorem sd_o_318 : sd_o 318 0 := by decide +kernel
theorem sd_o_331 : sd_o 331 10 := by decide +kernel
theorem sd_ra_15 : sd_ra 15 4 6 16 7 := by decide +kernel
theorem sd_re_15 : ∀ i, i < 6 → sd_o (16 + 7 * i) 4 := fun i hi => of_decide_eq_true (List.all_eq_true.mp (by decide +kernel : (List.range 6).all (fun i => decide (sd_sh[16 + 7 * i]? = some (sd_ob (16 + 7 * i) 4))) = true) i (List.mem_range.mpr hi))
theorem sd_ra_77 : sd_ra 77 2 4 78 19 := by decide +kernel
theorem sd_re_77 : ∀ i, i < 4 → sd_o (78 + 19 * i) 2 := fun i hi => of_decide_eq_true (List.all_eq_true.mp (by decide +kernel : (List.range 4).all (fun i => decide (sd_sh[78 + 19 * i]? = some (sd_ob (78 + 19 * i) 2))) = true) i (List.mem_range.mpr hi))
theorem sd_ra_155 : sd_ra 155 0 20 156 8 := by decide +kernel
theorem sd_re_155 : ∀ i, i < 20 → sd_o (156 + 8 * i) 0 := fun i hi => of_decide_eq_true (List.all_eq_true.mp (by decide +kernel : (List.range 20).all (fun i => decide (sd_sh[156 + 8 * i]? = some (sd_ob (156 + 8 * i) 0))) = true) i (List.mem_range.mpr hi))
