/-! what the mathematics owes: class and reference answer alike, and keep the invariant -/
def sd_rg (z : Int) : Prop := -2147483648 ≤ z ∧ z < 2147483648
theorem sd_rgi (x : Int32) : sd_rg x.toInt := ⟨Int32.le_toInt x, Int32.toInt_lt x⟩
def sd_S0 (Inv : sd_M → Prop) (f g : sd_M → Option (Int × sd_M)) : Prop := ∀ (M : sd_M), Inv M → ∃ (r : Int) (M1 M2 : sd_M), f M = some (r, M1) ∧ g M1 = some (r, M2) ∧ Inv M2
def sd_S1 (Inv : sd_M → Prop) (f g : Int → sd_M → Option (Int × sd_M)) : Prop := ∀ (M : sd_M), Inv M → ∀ (a1 : Int), sd_rg a1 → ∃ (r : Int) (M1 M2 : sd_M), f a1 M = some (r, M1) ∧ g a1 M1 = some (r, M2) ∧ Inv M2
def sd_S2 (Inv : sd_M → Prop) (f g : Int → Int → sd_M → Option (Int × sd_M)) : Prop := ∀ (M : sd_M), Inv M → ∀ (a1 : Int) (a2 : Int), sd_rg a1 → sd_rg a2 → ∃ (r : Int) (M1 M2 : sd_M), f a1 a2 M = some (r, M1) ∧ g a1 a2 M1 = some (r, M2) ∧ Inv M2
def sd_S3 (Inv : sd_M → Prop) (f g : Int → Int → Int → sd_M → Option (Int × sd_M)) : Prop := ∀ (M : sd_M), Inv M → ∀ (a1 : Int) (a2 : Int) (a3 : Int), sd_rg a1 → sd_rg a2 → sd_rg a3 → ∃ (r : Int) (M1 M2 : sd_M), f a1 a2 a3 M = some (r, M1) ∧ g a1 a2 a3 M1 = some (r, M2) ∧ Inv M2
def sd_S4 (Inv : sd_M → Prop) (f g : Int → Int → Int → Int → sd_M → Option (Int × sd_M)) : Prop := ∀ (M : sd_M), Inv M → ∀ (a1 : Int) (a2 : Int) (a3 : Int) (a4 : Int), sd_rg a1 → sd_rg a2 → sd_rg a3 → sd_rg a4 → ∃ (r : Int) (M1 M2 : sd_M), f a1 a2 a3 a4 M = some (r, M1) ∧ g a1 a2 a3 a4 M1 = some (r, M2) ∧ Inv M2
def sd_S5 (Inv : sd_M → Prop) (f g : Int → Int → Int → Int → Int → sd_M → Option (Int × sd_M)) : Prop := ∀ (M : sd_M), Inv M → ∀ (a1 : Int) (a2 : Int) (a3 : Int) (a4 : Int) (a5 : Int), sd_rg a1 → sd_rg a2 → sd_rg a3 → sd_rg a4 → sd_rg a5 → ∃ (r : Int) (M1 M2 : sd_M), f a1 a2 a3 a4 a5 M = some (r, M1) ∧ g a1 a2 a3 a4 a5 M1 = some (r, M2) ∧ Inv M2
def sd_Sim (Inv : sd_M → Prop) : Prop := sd_S5 Inv f_X9_feed f_X10_feed ∧ sd_S1 Inv f_X9_end f_X10_end ∧ sd_S0 Inv f_X9_slip f_X10_slip ∧ sd_S0 Inv f_X9_rule f_X10_rule ∧ sd_S1 Inv f_X9_force f_X10_force ∧ sd_S2 Inv f_X9_offer f_X10_offer ∧ sd_S3 Inv f_X9_need f_X10_need ∧ sd_S1 Inv f_X9_line f_X10_line ∧ sd_S1 Inv f_X9_out f_X10_out ∧ sd_S0 Inv f_X9_day f_X10_day ∧ sd_S1 Inv f_X9_cancel f_X10_cancel ∧ sd_S1 Inv f_X9_order f_X10_order ∧ sd_S2 Inv f_X9_write f_X10_write ∧ sd_S1 Inv f_X9_claim f_X10_claim ∧ sd_S0 Inv f_X9_undo f_X10_undo ∧ sd_S2 Inv f_X9_would f_X10_would ∧ sd_S2 Inv f_X9_least f_X10_least ∧ sd_S1 Inv f_X9_worst f_X10_worst ∧ sd_S0 Inv f_X9_firm f_X10_firm ∧ sd_S1 Inv f_X9_half f_X10_half ∧ sd_S2 Inv f_X9_agree f_X10_agree ∧ sd_S1 Inv f_X9_rows f_X10_rows ∧ sd_S2 Inv f_X9_ahead f_X10_ahead ∧ sd_S0 Inv f_X9_full f_X10_full ∧ sd_S1 Inv f_X9_taken f_X10_taken ∧ sd_S2 Inv f_X9_sizes f_X10_sizes ∧ sd_S1 Inv f_X9_standing f_X10_standing ∧ sd_S3 Inv f_X9_rests f_X10_rests ∧ sd_S2 Inv f_X9_pence f_X10_pence ∧ sd_S2 Inv f_X9_note f_X10_note ∧ sd_S1 Inv f_X9_ruled f_X10_ruled ∧ sd_S1 Inv f_X9_look f_X10_look ∧ sd_S1 Inv f_X9_seed f_X10_seed ∧ sd_S4 Inv f_X9_seasons f_X10_seasons ∧ sd_S1 Inv f_X9_count f_X10_count ∧ sd_S1 Inv f_X9_image f_X10_image ∧ sd_S1 Inv f_X9_back f_X10_back
theorem sd_ext_get {as as2 : List Nat} {k v : Nat} (h : ∃ ex, as2 = as ++ ex) (hk : as[k]? = some v) : as2[k]? = some v := by
  obtain ⟨ex, rfl⟩ := h
  rw [List.getElem?_append_left (List.getElem?_eq_some_iff.mp hk).1]
  exact hk
theorem sd_lin {x3 : Int32} {i L : Nat} (e : x3 = nI i) (h : i + 6 ≤ L) (hL : L ≤ 3072) (j : Int32) (hj : 0 ≤ j.toInt ∧ j.toInt ≤ 5) : vp_in (x3 + j) L := by
  have e1 : (nI i).toInt = (i : Int) := nI_toInt (by omega)
  have e2 : (x3 + j).toInt = (i : Int) + j.toInt := by
    rw [e, Int32.toInt_add, e1, Int.bmod_eq_of_le (by omega) (by omega)]
  refine sd_vpin (decide_eq_true ?_)
  omega
