/-! a rule's steps on a stack: what they come to -/
def ms_e2 (c x y : Int) : Int := if c = 2 then sd_wl (x + y) else if c = 3 then sd_wl (x - y) else if c = 4 then sd_wl (x * y) else if c = 5 then (if y = 0 then 0 else sd_wl (Int.tdiv x y)) else if c = 6 then (if y = 0 then 0 else Int.tmod x y) else if c = 7 then (if x < y then 1 else 0) else if c = 8 then (if x ≤ y then 1 else 0) else if c = 9 then (if x = y then 1 else 0) else if c = 10 then (if y ≤ x then 1 else 0) else if c = 11 then (if y < x then 1 else 0) else if c = 12 then (if x ≠ 0 ∧ y ≠ 0 then 1 else 0) else if x ≠ 0 ∨ y ≠ 0 then 1 else 0
def ms_e1 (c v : Int) (ws : Nat → Int) (st : List Int) : List Int := if c = 0 then v :: st else if c = 1 then ws v.toNat :: st else if c = 14 then (match st with
  | x :: t => sd_wl (1 - x) :: t
  | [] => []) else match st with
  | y :: x :: t => ms_e2 c x y :: t
  | t => t
def ms_ru (P V ws : Nat → Int) : Nat → Nat → List Int → List Int
  | 0, _, st => st
  | m + 1, i, st => ms_ru P V ws m (i + 1) (ms_e1 (P i) (V i) ws st)
/-- their kinds: true for a truth -/
def ms_t1 (c v : Int) (t : List Bool) : Option (List Bool) := if c = 0 then (if t.length < 60 ∧ 0 ≤ v ∧ v ≤ 99999 then some (false :: t) else none) else if c = 1 then (if t.length < 60 ∧ 0 ≤ v ∧ v < 11 then some (false :: t) else none) else if c = 14 then (match t with
  | true :: r => some (true :: r)
  | _ => none) else if 2 ≤ c ∧ c ≤ 6 then (match t with
  | false :: false :: r => some (false :: r)
  | _ => none) else if 7 ≤ c ∧ c ≤ 11 then (match t with
  | false :: false :: r => some (true :: r)
  | _ => none) else if 12 ≤ c ∧ c ≤ 13 then (match t with
  | true :: true :: r => some (true :: r)
  | _ => none) else none
def ms_tr (P V : Nat → Int) : Nat → Nat → List Bool → Option (List Bool)
  | 0, _, t => some t
  | m + 1, i, t => (ms_t1 (P i) (V i) t).bind fun t2 => ms_tr P V m (i + 1) t2
def ms_vt : List Bool → List Int → Prop
  | [], [] => True
  | b :: t, x :: s => (b = true → x = 0 ∨ x = 1) ∧ ms_vt t s
  | _, _ => False
theorem ms_vt_l : ∀ {t : List Bool} {s : List Int}, ms_vt t s → s.length = t.length
  | [], [], _ => rfl
  | _ :: t, _ :: s, h => by simp [ms_vt_l (t := t) (s := s) h.2]
  | [], _ :: _, h => h.elim
  | _ :: _, [], h => h.elim
/-- what a step finds and leaves -/
theorem ms_t1_c {c v : Int} {t t2 : List Bool} (h : ms_t1 c v t = some t2) {s : List Int} (hv : ms_vt t s) : (t.length < 60 ∧ t2 = false :: t ∧ ((c = 0 ∧ 0 ≤ v ∧ v ≤ 99999) ∨ (c = 1 ∧ 0 ≤ v ∧ v < 11))) ∨ (c = 14 ∧ ∃ r x s2, t2 = true :: r ∧ t = true :: r ∧ s = x :: s2 ∧ (x = 0 ∨ x = 1) ∧ ms_vt r s2) ∨ ((2 ≤ c ∧ c ≤ 13) ∧ ∃ b d r x y s2, t2 = b :: r ∧ t = d :: d :: r ∧ s = y :: x :: s2 ∧ ms_vt r s2 ∧ ((c ≤ 6 ∧ b = false) ∨ (7 ≤ c ∧ b = true)) ∧ (12 ≤ c → (x = 0 ∨ x = 1) ∧ (y = 0 ∨ y = 1))) := by
  unfold ms_t1 at h
  by_cases c0 : c = 0
  · rw [if_pos c0] at h
    split at h
    · rename_i hc
      injection h with h
      exact Or.inl ⟨hc.1, h.symm, Or.inl ⟨c0, hc.2⟩⟩
    · exact absurd h (by simp)
  rw [if_neg c0] at h
  by_cases c1 : c = 1
  · rw [if_pos c1] at h
    split at h
    · rename_i hc
      injection h with h
      exact Or.inl ⟨hc.1, h.symm, Or.inr ⟨c1, hc.2⟩⟩
    · exact absurd h (by simp)
  rw [if_neg c1] at h
  by_cases c2 : c = 14
  · rw [if_pos c2] at h
    split at h
    · injection h with h
      rename_i r
      match s, hv with
      | x :: s2, hv => exact Or.inr (Or.inl ⟨c2, r, x, s2, h.symm, rfl, rfl, hv.1 rfl, hv.2⟩)
    · exact absurd h (by simp)
  rw [if_neg c2] at h
  by_cases c3 : 2 ≤ c ∧ c ≤ 6
  · rw [if_pos c3] at h
    split at h
    · injection h with h
      rename_i r
      match s, hv with
      | y :: x :: s2, hv => exact Or.inr (Or.inr ⟨by omega, false, false, r, x, y, s2, h.symm, rfl, rfl, hv.2.2, Or.inl ⟨by omega, rfl⟩, fun h => absurd h (by omega)⟩)
    · exact absurd h (by simp)
  rw [if_neg c3] at h
  by_cases c4 : 7 ≤ c ∧ c ≤ 11
  · rw [if_pos c4] at h
    split at h
    · injection h with h
      rename_i r
      match s, hv with
      | y :: x :: s2, hv => exact Or.inr (Or.inr ⟨by omega, true, false, r, x, y, s2, h.symm, rfl, rfl, hv.2.2, Or.inr ⟨by omega, rfl⟩, fun h => absurd h (by omega)⟩)
    · exact absurd h (by simp)
  rw [if_neg c4] at h
  by_cases c5 : 12 ≤ c ∧ c ≤ 13
  · rw [if_pos c5] at h
    split at h
    · injection h with h
      rename_i r
      match s, hv with
      | y :: x :: s2, hv => exact Or.inr (Or.inr ⟨by omega, true, true, r, x, y, s2, h.symm, rfl, rfl, hv.2.2, Or.inr ⟨by omega, rfl⟩, fun _ => ⟨hv.2.1 rfl, hv.1 rfl⟩⟩)
    · exact absurd h (by simp)
  rw [if_neg c5] at h
  exact absurd h (by simp)
theorem ms_wl01 {x : Int} (h : x = 0 ∨ x = 1) : sd_wl (1 - x) = 0 ∨ sd_wl (1 - x) = 1 := by
  rcases h with rfl | rfl
  · exact Or.inr (by decide)
  · exact Or.inl (by decide)
theorem ms_e2_t {c x y : Int} (h : 7 ≤ c) : ms_e2 c x y = 0 ∨ ms_e2 c x y = 1 := by
  unfold ms_e2
  rw [if_neg (by omega), if_neg (by omega), if_neg (by omega), if_neg (by omega), if_neg (by omega)]
  repeat' split
  all_goals first | exact Or.inl rfl | exact Or.inr rfl
theorem ms_e1_t {c v : Int} {t t2 : List Bool} (h : ms_t1 c v t = some t2) {s : List Int} (hv : ms_vt t s) (ws : Nat → Int) : ms_vt t2 (ms_e1 c v ws s) := by
  rcases ms_t1_c h hv with ⟨h1, rfl, h2⟩ | ⟨h1, r, x, s2, rfl, rfl, rfl, hx, hr⟩ | ⟨h1, b, d, r, x, y, s2, rfl, rfl, rfl, hr, hb, _⟩
  · unfold ms_e1
    rcases h2 with ⟨rfl, _⟩ | ⟨rfl, _⟩
    · rw [if_pos rfl]
      exact ⟨fun h => absurd h (by decide), hv⟩
    · rw [if_neg (by omega), if_pos rfl]
      exact ⟨fun h => absurd h (by decide), hv⟩
  · unfold ms_e1
    rw [if_neg (by omega), if_neg (by omega), if_pos h1]
    exact ⟨fun _ => ms_wl01 hx, hr⟩
  · unfold ms_e1
    rw [if_neg (by omega), if_neg (by omega), if_neg (by omega)]
    refine ⟨fun e => ?_, hr⟩
    rcases hb with ⟨_, hb⟩ | ⟨hb, _⟩
    · rw [hb] at e
      exact absurd e (by decide)
    · exact ms_e2_t hb
/-- a stack in a row -/
def ms_sr (R : Nat → Int) : List Int → Prop
  | [] => True
  | x :: t => R t.length = x ∧ ms_sr R t
theorem ms_sr_u {R : Nat → Int} {i : Nat} {v : Int} : ∀ {t : List Int}, t.length ≤ i → ms_sr R t → ms_sr (ms_u R i v) t
  | [], _, _ => trivial
  | x :: t, hl, h => by
    simp only [List.length_cons] at hl
    exact ⟨by rw [ms_u_ne (by omega)]; exact h.1, ms_sr_u (t := t) (by omega) h.2⟩
theorem ms_sr_p {R : Nat → Int} {v : Int} {t : List Int} (h : ms_sr R t) : ms_sr (ms_u R t.length v) (v :: t) := ⟨ms_u_at, ms_sr_u (Nat.le_refl _) h⟩
/-- the class's signs as the reference numbers them -/
def ms_gi (c : Int) : Int := if c = 6 then 14 else if c = 14 then 11 else if 7 ≤ c ∧ c ≤ 11 then c - 1 else c
