/-! a step of our machine is a walk of the machine -/
theorem sd_if {α : Type} {P : Prop} {h : Decidable P} {x : Option α} {y : α} (h : (if P then x else none) = some y) : P ∧ x = some y := by
  split at h
  · exact ⟨by assumption, h⟩
  · cases h
theorem sd_i_add (x y : Int32) : sd_w (x.toInt + y.toInt) = (x + y).toInt := by rw [Int32.toInt_add]; rfl
theorem sd_i_sub (x y : Int32) : sd_w (x.toInt - y.toInt) = (x - y).toInt := by rw [Int32.toInt_sub]; rfl
theorem sd_i_mul (x y : Int32) : sd_w (x.toInt * y.toInt) = (x * y).toInt := by rw [Int32.toInt_mul]; rfl
theorem sd_i_div (x y : Int32) : sd_w (x.toInt.tdiv y.toInt) = (x / y).toInt := by rw [Int32.toInt_div]; rfl
theorem sd_i_rem (x y : Int32) : x.toInt.tmod y.toInt = (x - x / y * y).toInt := by
  have ht : (x % y).toInt = x.toInt.tmod y.toInt := Int32.toInt_mod x y
  have h1 := Int32.le_toInt (x % y)
  have h2 := Int32.toInt_lt (x % y)
  have h3 := Int32.le_toInt (x - x / y * y)
  have h4 := Int32.toInt_lt (x - x / y * y)
  rw [ht] at h1 h2
  rw [Int32.toInt_sub, Int32.toInt_mul, Int32.toInt_div] at h3 h4 ⊢
  have e := Int.mul_tdiv_add_tmod x.toInt y.toInt
  generalize x.toInt = a at *
  generalize y.toInt = b at *
  generalize a.tmod b = t at *
  generalize a.tdiv b = d at *
  rw [Int.bmod_eq_self_sub_mul_bdiv d (2 ^ 32)] at h3 h4 ⊢
  generalize d.bdiv (2 ^ 32) = k1 at *
  rw [Int.bmod_eq_self_sub_mul_bdiv ((d - ((2 ^ 32 : Nat) : Int) * k1) * b) (2 ^ 32)] at h3 h4 ⊢
  generalize ((d - ((2 ^ 32 : Nat) : Int) * k1) * b).bdiv (2 ^ 32) = k2 at *
  have e2 : (d - ((2 ^ 32 : Nat) : Int) * k1) * b = b * d - ((2 ^ 32 : Nat) : Int) * (k1 * b) := by rw [Int.sub_mul, Int.mul_assoc, Int.mul_comm d b]
  rw [e2] at h3 h4 ⊢
  rw [Int.bmod_eq_self_sub_mul_bdiv (a - (b * d - ((2 ^ 32 : Nat) : Int) * (k1 * b) - ((2 ^ 32 : Nat) : Int) * k2)) (2 ^ 32)] at h3 h4 ⊢
  generalize (a - (b * d - ((2 ^ 32 : Nat) : Int) * (k1 * b) - ((2 ^ 32 : Nat) : Int) * k2)).bdiv (2 ^ 32) = k3 at *
  generalize k1 * b = u at *
  generalize b * d = v at *
  omega
theorem sd_l_add (x y : Int64) : sd_wl (x.toInt + y.toInt) = (x + y).toInt := by rw [Int64.toInt_add]; rfl
theorem sd_l_sub (x y : Int64) : sd_wl (x.toInt - y.toInt) = (x - y).toInt := by rw [Int64.toInt_sub]; rfl
theorem sd_l_mul (x y : Int64) : sd_wl (x.toInt * y.toInt) = (x * y).toInt := by rw [Int64.toInt_mul]; rfl
theorem sd_l_div (x y : Int64) : sd_wl (x.toInt.tdiv y.toInt) = (x / y).toInt := by rw [Int64.toInt_div]; rfl
theorem sd_l_rem (x y : Int64) : x.toInt.tmod y.toInt = (x - x / y * y).toInt := by
  have ht : (x % y).toInt = x.toInt.tmod y.toInt := Int64.toInt_mod x y
  have h1 := Int64.le_toInt (x % y)
  have h2 := Int64.toInt_lt (x % y)
  have h3 := Int64.le_toInt (x - x / y * y)
  have h4 := Int64.toInt_lt (x - x / y * y)
  rw [ht] at h1 h2
  rw [Int64.toInt_sub, Int64.toInt_mul, Int64.toInt_div] at h3 h4 ⊢
  have e := Int.mul_tdiv_add_tmod x.toInt y.toInt
  generalize x.toInt = a at *
  generalize y.toInt = b at *
  generalize a.tmod b = t at *
  generalize a.tdiv b = d at *
  rw [Int.bmod_eq_self_sub_mul_bdiv d (2 ^ 64)] at h3 h4 ⊢
  generalize d.bdiv (2 ^ 64) = k1 at *
  rw [Int.bmod_eq_self_sub_mul_bdiv ((d - ((2 ^ 64 : Nat) : Int) * k1) * b) (2 ^ 64)] at h3 h4 ⊢
  generalize ((d - ((2 ^ 64 : Nat) : Int) * k1) * b).bdiv (2 ^ 64) = k2 at *
  have e2 : (d - ((2 ^ 64 : Nat) : Int) * k1) * b = b * d - ((2 ^ 64 : Nat) : Int) * (k1 * b) := by rw [Int.sub_mul, Int.mul_assoc, Int.mul_comm d b]
  rw [e2] at h3 h4 ⊢
  rw [Int.bmod_eq_self_sub_mul_bdiv (a - (b * d - ((2 ^ 64 : Nat) : Int) * (k1 * b) - ((2 ^ 64 : Nat) : Int) * k2)) (2 ^ 64)] at h3 h4 ⊢
  generalize (a - (b * d - ((2 ^ 64 : Nat) : Int) * (k1 * b) - ((2 ^ 64 : Nat) : Int) * k2)).bdiv (2 ^ 64) = k3 at *
  generalize k1 * b = u at *
  generalize b * d = v at *
  omega
theorem sd_i_and (x y : Int32) : sd_and x.toInt y.toInt = (x &&& y).toInt := by simp [sd_and]
theorem sd_i_or (x y : Int32) : sd_or x.toInt y.toInt = (x ||| y).toInt := by simp [sd_or]
theorem sd_i_xor (x y : Int32) : sd_xor x.toInt y.toInt = (x ^^^ y).toInt := by simp [sd_xor]
theorem sd_i_shl (x y : Int32) : sd_shl x.toInt y.toInt = (x <<< (y &&& 31)).toInt := by simp only [sd_shl, Int32.ofInt_toInt]
theorem sd_i_shr (x y : Int32) : sd_shr x.toInt y.toInt = (x >>> (y &&& 31)).toInt := by simp only [sd_shr, Int32.ofInt_toInt]
theorem sd_i_ush (x y : Int32) : sd_ush x.toInt y.toInt = (x.toUInt32 >>> (y.toUInt32 &&& Int32.toUInt32 31)).toInt32.toInt := by simp only [sd_ush, Int32.ofInt_toInt]
theorem sd_l_and (x y : Int64) : sd_landl x.toInt y.toInt = (x &&& y).toInt := by simp [sd_landl]
theorem sd_l_or (x y : Int64) : sd_lorl x.toInt y.toInt = (x ||| y).toInt := by simp [sd_lorl]
theorem sd_l_shl (x : Int64) (y : Int32) : sd_lshl x.toInt y.toInt = (x <<< (y.toInt64 &&& 63)).toInt := by simp only [sd_lshl, Int32.ofInt_toInt, Int64.ofInt_toInt]
theorem sd_l_cmp (x y : Int64) : sd_cmpl x.toInt y.toInt = (lg_cmp x y).toInt := by
  unfold sd_cmpl lg_cmp
  simp only [gt_iff_lt, Int64.lt_iff_toInt_lt, ← Int64.toInt_inj]
  repeat' split
  all_goals first | rfl | (exfalso; omega)
theorem sd_vpin {i : Int32} {n : Nat} (h : sd_in i.toInt n = true) : vp_in i n := by
  simp only [sd_in, decide_eq_true_eq] at h
  rintro (h1 | h1)
  · have := Int32.lt_iff_toInt_lt.mp h1
    rw [Int32.toInt_zero] at this
    omega
  · have e : i.toNatClampNeg = i.toInt.toNat := rfl
    omega

/-- from this frame the walk comes to Q -/
def sd_T (p : Program) (l : Launch) (e : Env) (R : Room) (s : State) (m : MethodId) (args : Array Value) (below : List Frame) (meth : Method) (c : Code) (D : va_G) (A : Nat → Prop) (as0 : List Nat) (nL : Nat) (Q : State → Prop) (F : sd_F) : Prop :=
  ∀ (ws : va_W) (H : Heap) (locs : List Loc) (ls : Array Slot) (cst : List Value) (lv : List (Nat × Value)),
    sd_RW s F.2.2.2.1 ws → va_P D vwCl ws H → va_D A ws → va_S A s.heap H locs → (∃ ex, ws.map (fun q => q.1) = as0 ++ ex) → sd_RL (ws.map (fun q => q.1)) F.2.2.1 cst → sd_RV (ws.map (fun q => q.1)) F.2.1 lv → lv_has ls nL lv →
    W p l e R s m args below meth c H locs F.2.2.2.2.1 F.2.2.2.2.2 Q (F0 m F.1 ls cst)
/-- a step to F1 can be walked -/
def sd_K (p : Program) (l : Launch) (e : Env) (R : Room) (s : State) (m : MethodId) (args : Array Value) (below : List Frame) (meth : Method) (c : Code) (D : va_G) (A : Nat → Prop) (as0 : List Nat) (nL : Nat) (Q : State → Prop) (F F1 : sd_F) : Prop :=
  F.2.2.2.2.1 ≤ F1.2.2.2.2.1 ∧ F.2.2.2.2.2 ≤ F1.2.2.2.2.2 ∧ (F1.2.2.2.2.1 ≤ R.cells → F1.2.2.2.2.2 ≤ R.slots → sd_T p l e R s m args below meth c D A as0 nL Q F1 → sd_T p l e R s m args below meth c D A as0 nL Q F)
section SdSim
variable {p : Program} {l : Launch} {e : Env} {R : Room} {s : State} {m : MethodId} {args : Array Value} {below : List Frame} {meth : Method} {c : Code} {D : va_G} {A : Nat → Prop} {as0 : List Nat} {nL : Nat} {Q : State → Prop} {cc : ByteArray} {o : Nat} {ini : Bool} {F F1 : sd_F}
/-- a step that changes the stack alone -/
theorem sd_K_st {pc2 : Nat} {st2 : List sd_V} (hn : sd_n F pc2 st2 = some (.inl F1)) (h : ∀ (as : List Nat) (cst : List Value), sd_RL as F.2.2.1 cst → ∃ cst2, sd_RL as st2 cst2 ∧ ∀ (H : Heap) (locs : List Loc) (k n : Nat) (ls : Array Slot), W p l e R s m args below meth c H locs k n Q (F0 m pc2 ls cst2) → W p l e R s m args below meth c H locs k n Q (F0 m F.1 ls cst)) : sd_K p l e R s m args below meth c D A as0 nL Q F F1 := by
  cases hn
  refine ⟨Nat.le_refl _, Nat.le_refl _, fun _ _ hT ws H locs ls cst lv hW hP hD hS hE hst hlv hls => ?_⟩
  obtain ⟨cst2, h1, h2⟩ := h _ _ hst
  exact h2 _ _ _ _ _ (hT ws H locs ls cst2 lv hW hP hD hS hE h1 hlv hls)
theorem sd_K_i2 {f : Int → Int → Int} {g : Int32 → Int32 → Int32} (hfg : ∀ x y : Int32, f x.toInt y.toInt = (g x y).toInt)
    (row : ∀ (H : Heap) (locs : List Loc) (k n : Nat) (ls : Array Slot) (rest : List Value) (x y : Int32), W p l e R s m args below meth c H locs k n Q (F0 m (F.1 + 1) ls (.int (g x y) :: rest)) → W p l e R s m args below meth c H locs k n Q (F0 m F.1 ls (.int y :: .int x :: rest)))
    (h : sd_i2 F f = some (.inl F1)) : sd_K p l e R s m args below meth c D A as0 nL Q F F1 := by
  unfold sd_i2 at h
  split at h
  · rename_i y x r heq
    refine sd_K_st h fun as cst hst => ?_
    rw [heq] at hst
    obtain ⟨cy, c1, rfl, hy, hs1⟩ := sd_RL_i hst
    obtain ⟨cx, c2, rfl, hx, hs2⟩ := sd_RL_i hs1
    subst hy; subst hx
    exact ⟨.int (g cx cy) :: c2, ⟨(hfg cx cy).symm, hs2⟩, fun H locs k n ls k2 => row _ _ _ _ _ _ _ _ k2⟩
  · cases h
theorem sd_K_i2z {f : Int → Int → Int} {g : Int32 → Int32 → Int32} (hfg : ∀ x y : Int32, f x.toInt y.toInt = (g x y).toInt)
    (row : ∀ (H : Heap) (locs : List Loc) (k n : Nat) (ls : Array Slot) (rest : List Value) (x y : Int32), ¬ y = 0 → W p l e R s m args below meth c H locs k n Q (F0 m (F.1 + 1) ls (.int (g x y) :: rest)) → W p l e R s m args below meth c H locs k n Q (F0 m F.1 ls (.int y :: .int x :: rest)))
    (h : sd_i2z F f = some (.inl F1)) : sd_K p l e R s m args below meth c D A as0 nL Q F F1 := by
  unfold sd_i2z at h
  split at h
  · rename_i y x r heq
    split at h
    · cases h
    rename_i hne
    refine sd_K_st h fun as cst hst => ?_
    rw [heq] at hst
    obtain ⟨cy, c1, rfl, hy, hs1⟩ := sd_RL_i hst
    obtain ⟨cx, c2, rfl, hx, hs2⟩ := sd_RL_i hs1
    subst hy; subst hx
    exact ⟨.int (g cx cy) :: c2, ⟨(hfg cx cy).symm, hs2⟩, fun H locs k n ls k2 => row _ _ _ _ _ _ _ _ (fun h0 => hne (by rw [h0]; rfl)) k2⟩
  · cases h
theorem sd_K_l2 {f : Int → Int → Int} {g : Int64 → Int64 → Int64} (hfg : ∀ x y : Int64, f x.toInt y.toInt = (g x y).toInt)
    (row : ∀ (H : Heap) (locs : List Loc) (k n : Nat) (ls : Array Slot) (rest : List Value) (x y : Int64), W p l e R s m args below meth c H locs k n Q (F0 m (F.1 + 1) ls (.long (g x y) :: rest)) → W p l e R s m args below meth c H locs k n Q (F0 m F.1 ls (.long y :: .long x :: rest)))
    (h : sd_l2 F f = some (.inl F1)) : sd_K p l e R s m args below meth c D A as0 nL Q F F1 := by
  unfold sd_l2 at h
  split at h
  · rename_i y x r heq
    refine sd_K_st h fun as cst hst => ?_
    rw [heq] at hst
    obtain ⟨cy, c1, rfl, hy, hs1⟩ := sd_RL_l hst
    obtain ⟨cx, c2, rfl, hx, hs2⟩ := sd_RL_l hs1
    subst hy; subst hx
    exact ⟨.long (g cx cy) :: c2, ⟨(hfg cx cy).symm, hs2⟩, fun H locs k n ls k2 => row _ _ _ _ _ _ _ _ k2⟩
  · cases h
theorem sd_K_l2z {f : Int → Int → Int} {g : Int64 → Int64 → Int64} (hfg : ∀ x y : Int64, f x.toInt y.toInt = (g x y).toInt)
    (row : ∀ (H : Heap) (locs : List Loc) (k n : Nat) (ls : Array Slot) (rest : List Value) (x y : Int64), ¬ y = 0 → W p l e R s m args below meth c H locs k n Q (F0 m (F.1 + 1) ls (.long (g x y) :: rest)) → W p l e R s m args below meth c H locs k n Q (F0 m F.1 ls (.long y :: .long x :: rest)))
    (h : sd_l2z F f = some (.inl F1)) : sd_K p l e R s m args below meth c D A as0 nL Q F F1 := by
  unfold sd_l2z at h
  split at h
  · rename_i y x r heq
    split at h
    · cases h
    rename_i hne
    refine sd_K_st h fun as cst hst => ?_
    rw [heq] at hst
    obtain ⟨cy, c1, rfl, hy, hs1⟩ := sd_RL_l hst
    obtain ⟨cx, c2, rfl, hx, hs2⟩ := sd_RL_l hs1
    subst hy; subst hx
    exact ⟨.long (g cx cy) :: c2, ⟨(hfg cx cy).symm, hs2⟩, fun H locs k n ls k2 => row _ _ _ _ _ _ _ _ (fun h0 => hne (by rw [h0]; rfl)) k2⟩
  · cases h
/-- a constant is pushed -/
theorem sd_K_c {n2 : Nat} {v : sd_V} {w : Value} (hv : ∀ as, sd_R as v w)
    (row : ∀ (H : Heap) (locs : List Loc) (k n : Nat) (ls : Array Slot) (rest : List Value), W p l e R s m args below meth c H locs k n Q (F0 m (F.1 + n2) ls (w :: rest)) → W p l e R s m args below meth c H locs k n Q (F0 m F.1 ls rest))
    (h : sd_n F (F.1 + n2) (v :: F.2.2.1) = some (.inl F1)) : sd_K p l e R s m args below meth c D A as0 nL Q F F1 :=
  sd_K_st h fun as cst hst => ⟨w :: cst, ⟨hv as, hst⟩, fun H locs k n ls k2 => row _ _ _ _ _ _ k2⟩
/-- a local is read -/
theorem sd_K_ld {kk : sd_V → Bool} {n2 i : Nat}
    (row : ∀ (H : Heap) (locs : List Loc) (k n : Nat) (ls : Array Slot) (rest : List Value) (as : List Nat) (v : sd_V) (w : Value), kk v = true → sd_R as v w → ls[i]? = some (.val w) → W p l e R s m args below meth c H locs k n Q (F0 m (F.1 + n2) ls (w :: rest)) → W p l e R s m args below meth c H locs k n Q (F0 m F.1 ls rest))
    (h : sd_ldk kk F n2 i = some (.inl F1)) : sd_K p l e R s m args below meth c D A as0 nL Q F F1 := by
  unfold sd_ldk at h
  split at h
  · rename_i v hv
    obtain ⟨hk, h⟩ := sd_if h
    cases h
    refine ⟨Nat.le_refl _, Nat.le_refl _, fun _ _ hT ws H locs ls cst lv hW hP hD hS hE hst hlv hls => ?_⟩
    obtain ⟨k, w, h1, h2⟩ := sd_RV_get hlv hv
    exact row _ _ _ _ _ _ _ _ _ hk h2 (lv_at hls k h1) (hT ws H locs ls _ lv hW hP hD hS hE ⟨h2, hst⟩ hlv hls)
  · cases h
/-- a local of one word is written -/
theorem sd_K_s1 {kk : sd_V → Bool} {n2 i : Nat}
    (row : ∀ (H : Heap) (locs : List Loc) (k n : Nat) (ls : Array Slot) (rest : List Value) (as : List Nat) (v : sd_V) (w : Value) (lv : List (Nat × Value)), kk v = true → sd_R as v w → lv_has ls nL lv → i < nL → (∀ ls' : Array Slot, lv_has ls' nL ((i, w) :: lv.filter (fun q => !(q.1 == i) && !(q.1 + 1 == i && q.2.category == 2))) → W p l e R s m args below meth c H locs k n Q (F0 m (F.1 + n2) ls' rest)) → W p l e R s m args below meth c H locs k n Q (F0 m F.1 ls (w :: rest)))
    (h : sd_sto1 kk F nL n2 i = some (.inl F1)) : sd_K p l e R s m args below meth c D A as0 nL Q F F1 := by
  unfold sd_sto1 at h
  split at h
  · rename_i v r heq
    obtain ⟨⟨hk, hi⟩, h⟩ := sd_if h
    cases h
    refine ⟨Nat.le_refl _, Nat.le_refl _, fun _ _ hT ws H locs ls cst lv hW hP hD hS hE hst hlv hls => ?_⟩
    rw [heq] at hst
    obtain ⟨w, cr, rfl, h1, h2⟩ := sd_RL_v hst
    refine row _ _ _ _ _ _ _ _ _ lv hk h1 hls hi fun ls' hls' => hT ws H locs ls' _ _ hW hP hD hS hE h2 ?_ hls'
    exact ⟨rfl, h1, sd_RV_fil (f := fun a b => !(a == i) && !(a + 1 == i && b == 2)) hlv⟩
  · cases h
theorem sd_K_s2 {n2 i : Nat}
    (row : ∀ (H : Heap) (locs : List Loc) (k n : Nat) (ls : Array Slot) (rest : List Value) (w : Int64) (lv : List (Nat × Value)), lv_has ls nL lv → i + 1 < nL → (∀ ls' : Array Slot, lv_has ls' nL ((i, .long w) :: lv.filter (fun q => !(q.1 == i) && (!(q.1 == i + 1) && !(q.1 + 1 == i && q.2.category == 2)))) → W p l e R s m args below meth c H locs k n Q (F0 m (F.1 + n2) ls' rest)) → W p l e R s m args below meth c H locs k n Q (F0 m F.1 ls (.long w :: rest)))
    (h : sd_sto2 F nL n2 i = some (.inl F1)) : sd_K p l e R s m args below meth c D A as0 nL Q F F1 := by
  unfold sd_sto2 at h
  split at h
  · rename_i v r heq
    obtain ⟨⟨hk, hi⟩, h⟩ := sd_if h
    cases h
    refine ⟨Nat.le_refl _, Nat.le_refl _, fun _ _ hT ws H locs ls cst lv hW hP hD hS hE hst hlv hls => ?_⟩
    rcases v with z | z | z
    · cases hk
    · rw [heq] at hst
      obtain ⟨w, cr, rfl, h1, h2⟩ := sd_RL_l hst
      refine row _ _ _ _ _ _ w lv hls hi fun ls' hls' => hT ws H locs ls' _ _ hW hP hD hS hE h2 ?_ hls'
      exact ⟨rfl, h1, sd_RV_fil (f := fun a b => !(a == i) && (!(a == i + 1) && !(a + 1 == i && b == 2))) hlv⟩
    · cases hk
  · cases h
/-- a jump -/
theorem sd_K_j {off : Int} {st2 : List sd_V}
    (hst : ∀ (as : List Nat) (cst : List Value), sd_RL as F.2.2.1 cst → ∃ cst2, sd_RL as st2 cst2 ∧ ∀ (H : Heap) (locs : List Loc) (k n : Nat) (ls : Array Slot) (tgt : Nat), (F.1 : Int) + off = (tgt : Int) → W p l e R s m args below meth c H locs k n Q (F0 m tgt ls cst2) → W p l e R s m args below meth c H locs k n Q (F0 m F.1 ls cst))
    (h : sd_j F off st2 = some (.inl F1)) : sd_K p l e R s m args below meth c D A as0 nL Q F F1 := by
  unfold sd_j at h
  obtain ⟨h0, h⟩ := sd_if h
  refine sd_K_st h fun as cst hs => ?_
  obtain ⟨cst2, h1, h2⟩ := hst as cst hs
  exact ⟨cst2, h1, fun H locs k n ls k2 => h2 _ _ _ _ _ _ (by omega) k2⟩
end SdSim
