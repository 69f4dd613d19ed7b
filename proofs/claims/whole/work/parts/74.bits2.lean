/-! sets as numbers: met, joined, taken away -/
theorem ms_xb : ∀ b0 b1 b2 b3 b4 b5 b6 b7 b8 : Bool, ∀ i : Fin 32, (BitVec.ofInt 32 (ms_x9 b0 b1 b2 b3 b4 b5 b6 b7 b8)).getLsbD i.val = (([b0, b1, b2, b3, b4, b5, b6, b7, b8][i.val]?).getD false) := by decide +kernel
theorem ms_l9 {p : Nat → Bool} {i : Nat} : (([p 0, p 1, p 2, p 3, p 4, p 5, p 6, p 7, p 8][i]?).getD false) = (decide (i < 9) && p i) := by
  match i with
  | 0 => simp
  | 1 => simp
  | 2 => simp
  | 3 => simp
  | 4 => simp
  | 5 => simp
  | 6 => simp
  | 7 => simp
  | 8 => simp
  | i + 9 =>
    have : ¬ (i + 9 < 9) := by omega
    simp [this]
theorem ms_bt_g {p : Nat → Bool} {i : Nat} (hi : i < 32) : (BitVec.ofInt 32 (ms_bt p 9)).getLsbD i = (decide (i < 9) && p i) := by
  rw [← ms_l9, ms_x9_e]
  exact ms_xb (p 0) (p 1) (p 2) (p 3) (p 4) (p 5) (p 6) (p 7) (p 8) ⟨i, hi⟩
theorem ms_bv_i {z : BitVec 32} {r : Nat → Bool} (h : ∀ i, i < 32 → z.getLsbD i = (decide (i < 9) && r i)) : z.toInt = ms_bt r 9 := by
  have e : z = BitVec.ofInt 32 (ms_bt r 9) := BitVec.eq_of_getLsbD_eq (fun i hi => by rw [h i hi, ms_bt_g hi])
  have b := ms_bt_lt (p := r) 9
  have b2 := ms_p9 (n := 9) (by omega)
  rw [e, BitVec.toInt_ofInt]
  exact Int.bmod_eq_of_le (by omega) (by omega)
theorem ms_bt_and {p q : Nat → Bool} : sd_and (ms_bt p 9) (ms_bt q 9) = ms_bt (fun i => p i && q i) 9 := by
  unfold sd_and
  show ((Int32.ofInt (ms_bt p 9) &&& Int32.ofInt (ms_bt q 9)).toBitVec).toInt = _
  rw [Int32.toBitVec_and, Int32.toBitVec_ofInt, Int32.toBitVec_ofInt]
  refine ms_bv_i (fun i hi => ?_)
  rw [BitVec.getLsbD_and, ms_bt_g hi, ms_bt_g hi]
  cases decide (i < 9) <;> simp
theorem ms_bt_or2 {p q : Nat → Bool} : sd_or (ms_bt p 9) (ms_bt q 9) = ms_bt (fun i => p i || q i) 9 := by
  unfold sd_or
  show ((Int32.ofInt (ms_bt p 9) ||| Int32.ofInt (ms_bt q 9)).toBitVec).toInt = _
  rw [Int32.toBitVec_or, Int32.toBitVec_ofInt, Int32.toBitVec_ofInt]
  refine ms_bv_i (fun i hi => ?_)
  rw [BitVec.getLsbD_or, ms_bt_g hi, ms_bt_g hi]
  cases decide (i < 9) <;> simp
theorem ms_m1 {i : Nat} (hi : i < 32) : (BitVec.ofInt 32 (-1)).getLsbD i = true := by
  have : ∀ i : Fin 32, (BitVec.ofInt 32 (-1)).getLsbD i.val = true := by decide +kernel
  exact this ⟨i, hi⟩
theorem ms_xor_v {x : Int} : Int32.ofInt (sd_xor x (-1)) = Int32.ofInt x ^^^ Int32.ofInt (-1) := by
  unfold sd_xor
  exact Int32.ofInt_toInt _
theorem ms_bt_sub {p q : Nat → Bool} : sd_and (ms_bt p 9) (sd_xor (ms_bt q 9) (-1)) = ms_bt (fun i => p i && !(q i)) 9 := by
  unfold sd_and
  rw [ms_xor_v]
  show ((Int32.ofInt (ms_bt p 9) &&& (Int32.ofInt (ms_bt q 9) ^^^ Int32.ofInt (-1))).toBitVec).toInt = _
  rw [Int32.toBitVec_and, Int32.toBitVec_xor, Int32.toBitVec_ofInt, Int32.toBitVec_ofInt, Int32.toBitVec_ofInt]
  refine ms_bv_i (fun i hi => ?_)
  rw [BitVec.getLsbD_and, BitVec.getLsbD_xor, ms_bt_g hi, ms_bt_g hi, ms_m1 hi]
  cases decide (i < 9) <;> cases p i <;> cases q i <;> rfl
theorem ms_in9 {x : Int} (hx : sd_rg x) {q : Nat → Bool} (h : sd_and x (sd_xor (ms_bt q 9) (-1)) = 0) : ∃ p : Nat → Bool, x = ms_bt p 9 ∧ ∀ i, i < 9 → p i = true → q i = true := by
  unfold sd_and at h
  rw [ms_xor_v] at h
  have h2 : ((Int32.ofInt x &&& (Int32.ofInt (ms_bt q 9) ^^^ Int32.ofInt (-1))).toBitVec).toInt = (0#32).toInt := h
  rw [Int32.toBitVec_and, Int32.toBitVec_xor, Int32.toBitVec_ofInt, Int32.toBitVec_ofInt, Int32.toBitVec_ofInt] at h2
  have h3 := BitVec.eq_of_toInt_eq h2
  have g : ∀ i, i < 32 → ((BitVec.ofInt 32 x).getLsbD i && ((decide (i < 9) && q i) ^^ true)) = false := fun i hi => by
    have := congrArg (fun z => BitVec.getLsbD z i) h3
    rw [BitVec.getLsbD_and, BitVec.getLsbD_xor, ms_bt_g hi, ms_m1 hi] at this
    rw [this]
    simp
  refine ⟨fun i => (BitVec.ofInt 32 x).getLsbD i, ?_, fun i hi e => ?_⟩
  · have e := ms_bv_i (z := BitVec.ofInt 32 x) (r := fun i => (BitVec.ofInt 32 x).getLsbD i) (fun i hi => by
      have := g i hi
      by_cases c : i < 9
      · simp [c]
      · simp only [c, decide_false, Bool.false_and] at this ⊢
        simpa using this)
    rw [← e, BitVec.toInt_ofInt]
    unfold sd_rg at hx
    exact (Int.bmod_eq_of_le (by omega) (by omega)).symm
  · have := g i (by omega)
    simp only [] at e
    rw [e] at this
    simp only [hi, decide_true, Bool.true_and] at this
    cases qq : q i
    · rw [qq] at this
      simp at this
    · rfl
/-- any number below 512 is a set -/
theorem ms_tb : ∀ v : Fin 512, ms_bt (fun i => v.val.testBit i) 9 = (v.val : Int) := by decide +kernel
theorem ms_as {x : Int} (h : 0 ≤ x ∧ x < 512) : x = ms_bt (fun i => x.toNat.testBit i) 9 := by
  obtain ⟨v, rfl⟩ : ∃ v : Nat, x = v := ⟨x.toNat, by omega⟩
  exact (ms_tb ⟨v, by omega⟩).symm
theorem ms_one {f : Nat} (hf : f < 9) : sd_shl 1 (f : Int) = ms_bt (fun i => f == i) 9 := by
  have := ms_bt_o (p := fun _ => false) hf
  rw [ms_bt_z (p := fun _ => false) (fun _ _ => rfl)] at this
  have z : ∀ f : Fin 9, sd_or 0 (sd_shl 1 (f.val : Int)) = sd_shl 1 (f.val : Int) := by decide +kernel
  rw [z ⟨f, hf⟩] at this
  rw [this]
  exact ms_bt_c 9 (fun i _ => by simp)
