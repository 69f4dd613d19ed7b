/-! how our machine's values, locals and cells lie in the machine's: as is the row of the cells' addresses -/
def sd_R (as : List Nat) (v : sd_V) (w : Value) : Prop := match v, w with
  | .inl z, .int x => x.toInt = z
  | .inr (.inl z), .long x => x.toInt = z
  | .inr (.inr (some a)), .ref q => as[a]? = some q
  | .inr (.inr none), .null => True
  | _, _ => False
def sd_RL (as : List Nat) : List sd_V → List Value → Prop
  | [], [] => True
  | v :: l, w :: m => sd_R as v w ∧ sd_RL as l m
  | _, _ => False
def sd_RV (as : List Nat) : List (Nat × sd_V) → List (Nat × Value) → Prop
  | [], [] => True
  | (i, v) :: l, (j, w) :: m => i = j ∧ sd_R as v w ∧ sd_RV as l m
  | _, _ => False
theorem sd_R_cat {as : List Nat} {v : sd_V} {w : Value} (h : sd_R as v w) : w.category = sd_cat v := by
  rcases v with z | z | _ | a <;> cases w <;> first | exact h.elim | rfl
theorem sd_R_ext {as ex : List Nat} {v : sd_V} {w : Value} (h : sd_R as v w) : sd_R (as ++ ex) v w := by
  rcases v with z | z | _ | a <;> cases w <;> first | exact h | skip
  rw [sd_R, List.getElem?_append_left (List.getElem?_eq_some_iff.mp h).1]
  exact h
theorem sd_RL_ext {as ex : List Nat} : ∀ {l : List sd_V} {m : List Value}, sd_RL as l m → sd_RL (as ++ ex) l m
  | [], [], _ => trivial
  | [], _ :: _, h => h.elim
  | _ :: _, [], h => h.elim
  | _ :: _, _ :: _, h => ⟨sd_R_ext h.1, sd_RL_ext h.2⟩
theorem sd_RV_ext {as ex : List Nat} : ∀ {l : List (Nat × sd_V)} {m : List (Nat × Value)}, sd_RV as l m → sd_RV (as ++ ex) l m
  | [], [], _ => trivial
  | [], _ :: _, h => h.elim
  | _ :: _, [], h => h.elim
  | _ :: _, _ :: _, h => ⟨h.1, sd_R_ext h.2.1, sd_RV_ext h.2.2⟩
theorem sd_RL_len {as : List Nat} : ∀ {l : List sd_V} {m : List Value}, sd_RL as l m → m.length = l.length
  | [], [], _ => rfl
  | [], _ :: _, h => h.elim
  | _ :: _, [], h => h.elim
  | _ :: _, _ :: _, h => by simp [sd_RL_len h.2]
theorem sd_RL_get {as : List Nat} : ∀ {l : List sd_V} {m : List Value} {k : Nat} {v : sd_V}, sd_RL as l m → l[k]? = some v → ∃ w, m[k]? = some w ∧ sd_R as v w
  | [], [], _, _, _, h => by simp at h
  | [], _ :: _, _, _, h, _ => h.elim
  | _ :: _, [], _, _, h, _ => h.elim
  | _ :: _, w :: _, 0, _, h, hk => ⟨w, rfl, by simp at hk; subst hk; exact h.1⟩
  | _ :: _, _ :: _, k + 1, _, h, hk => by
    obtain ⟨w, h1, h2⟩ := sd_RL_get (k := k) h.2 (by simpa using hk)
    exact ⟨w, by simpa using h1, h2⟩
theorem sd_RL_set {as : List Nat} : ∀ {l : List sd_V} {m : List Value} {k : Nat} {v : sd_V} {w : Value}, sd_RL as l m → sd_R as v w → sd_RL as (l.set k v) (m.set k w)
  | [], [], _, _, _, _, _ => trivial
  | [], _ :: _, _, _, _, h, _ => h.elim
  | _ :: _, [], _, _, _, h, _ => h.elim
  | _ :: _, _ :: _, 0, _, _, h, hv => ⟨hv, h.2⟩
  | _ :: _, _ :: _, _ + 1, _, _, h, hv => ⟨h.1, sd_RL_set h.2 hv⟩
theorem sd_RL_app {as : List Nat} : ∀ {l l2 : List sd_V} {m m2 : List Value}, sd_RL as l m → sd_RL as l2 m2 → sd_RL as (l ++ l2) (m ++ m2)
  | [], _, [], _, _, h2 => h2
  | [], _, _ :: _, _, h, _ => h.elim
  | _ :: _, _, [], _, h, _ => h.elim
  | _ :: _, _, _ :: _, _, h, h2 => ⟨h.1, sd_RL_app h.2 h2⟩
theorem sd_RL_spl {as : List Nat} : ∀ {l l2 : List sd_V} {m : List Value}, sd_RL as (l ++ l2) m → ∃ m1 m2, m = m1 ++ m2 ∧ sd_RL as l m1 ∧ sd_RL as l2 m2
  | [], _, m, h => ⟨[], m, rfl, trivial, h⟩
  | _ :: _, _, [], h => h.elim
  | _ :: l, _, w :: m, h => by
    obtain ⟨m1, m2, h1, h2, h3⟩ := sd_RL_spl (l := l) h.2
    exact ⟨w :: m1, m2, by rw [h1]; rfl, ⟨h.1, h2⟩, h3⟩
theorem sd_RL_rev {as : List Nat} : ∀ {l : List sd_V} {m : List Value}, sd_RL as l m → sd_RL as l.reverse m.reverse
  | [], [], _ => trivial
  | [], _ :: _, h => h.elim
  | _ :: _, [], h => h.elim
  | v :: l, w :: m, h => by
    rw [List.reverse_cons, List.reverse_cons]
    exact sd_RL_app (sd_RL_rev h.2) ⟨h.1, trivial⟩
theorem sd_RL_sum {as : List Nat} : ∀ {l : List sd_V} {m : List Value}, sd_RL as l m → (m.map fun v => v.category).sum = sd_sum l
  | [], [], _ => rfl
  | [], _ :: _, h => h.elim
  | _ :: _, [], h => h.elim
  | v :: l, w :: m, h => by
    have e := sd_RL_sum h.2
    simp only [sd_sum, List.map_cons, List.sum_cons] at e ⊢
    rw [e, sd_R_cat h.1]
theorem sd_RV_get {as : List Nat} : ∀ {l : List (Nat × sd_V)} {m : List (Nat × Value)} {i : Nat} {v : sd_V}, sd_RV as l m → l.lookup i = some v → ∃ (k : Nat) (w : Value), m[k]? = some (i, w) ∧ sd_R as v w
  | [], [], _, _, _, h => by simp at h
  | [], _ :: _, _, _, h, _ => h.elim
  | _ :: _, [], _, _, h, _ => h.elim
  | (a, b) :: l, (a', b') :: m, i, v, h, hk => by
    obtain ⟨rfl, h2, h3⟩ := h
    by_cases hi : i = a
    · subst hi
      rw [List.lookup_cons_self] at hk
      cases hk
      exact ⟨0, b', rfl, h2⟩
    · have hi' : (i == a) = false := by simp [hi]
      rw [List.lookup, hi'] at hk
      obtain ⟨k, w, h4, h5⟩ := sd_RV_get h3 hk
      exact ⟨k + 1, w, by simpa using h4, h5⟩
theorem sd_RV_fil {as : List Nat} {f : Nat → Nat → Bool} : ∀ {l : List (Nat × sd_V)} {m : List (Nat × Value)}, sd_RV as l m → sd_RV as (l.filter (fun q => f q.1 (sd_cat q.2))) (m.filter (fun q => f q.1 q.2.category))
  | [], [], _ => trivial
  | [], _ :: _, h => h.elim
  | _ :: _, [], h => h.elim
  | (a, b) :: l, (a', b') :: m, h => by
    obtain ⟨rfl, h2, h3⟩ := h
    have ih := sd_RV_fil (f := f) h3
    rw [List.filter_cons, List.filter_cons]
    dsimp only
    rw [sd_R_cat h2]
    split
    · exact ⟨rfl, h2, ih⟩
    · exact ih
theorem sd_RV_en {as : List Nat} : ∀ {l : List sd_V} {m : List Value} {i : Nat}, sd_RL as l m → sd_RV as (sd_en i l) (lv_args i m)
  | [], [], _, _ => trivial
  | [], _ :: _, _, h => h.elim
  | _ :: _, [], _, h => h.elim
  | v :: l, w :: m, i, h => by
    refine ⟨rfl, h.1, ?_⟩
    have e := sd_R_cat h.1
    have : (if w.category = 2 then i + 2 else i + 1) = i + sd_cat v := by
      rw [e]
      rcases v with z | z | _ | a <;> rfl
    rw [this]
    exact sd_RV_en h.2
theorem sd_sl_len {as : List Nat} : ∀ {l : List sd_V} {m : List Value}, sd_RL as l m → (lg_sl m).length = sd_sum l
  | [], [], _ => rfl
  | [], _ :: _, h => h.elim
  | _ :: _, [], h => h.elim
  | v :: l, w :: m, h => by
    have e := sd_sl_len h.2
    have e2 := sd_R_cat h.1
    simp only [lg_sl, List.flatMap_cons, List.length_append, sd_sum, List.map_cons, List.sum_cons] at e ⊢
    rw [e, e2]
    rcases v with z | z | _ | a <;> rfl
/-- stacks by their heads -/
theorem sd_RL_i {as : List Nat} {x : Int} {r : List sd_V} {m : List Value} (h : sd_RL as (.inl x :: r) m) : ∃ (cx : Int32) (cr : List Value), m = .int cx :: cr ∧ cx.toInt = x ∧ sd_RL as r cr := by
  rcases m with _ | ⟨w, m⟩
  · exact h.elim
  · obtain ⟨h1, h2⟩ := h
    cases w <;> first | exact h1.elim | exact ⟨_, _, rfl, h1, h2⟩
theorem sd_RL_l {as : List Nat} {x : Int} {r : List sd_V} {m : List Value} (h : sd_RL as (.inr (.inl x) :: r) m) : ∃ (cx : Int64) (cr : List Value), m = .long cx :: cr ∧ cx.toInt = x ∧ sd_RL as r cr := by
  rcases m with _ | ⟨w, m⟩
  · exact h.elim
  · obtain ⟨h1, h2⟩ := h
    cases w <;> first | exact h1.elim | exact ⟨_, _, rfl, h1, h2⟩
theorem sd_RL_r {as : List Nat} {a : Nat} {r : List sd_V} {m : List Value} (h : sd_RL as (.inr (.inr (some a)) :: r) m) : ∃ (q : Nat) (cr : List Value), m = .ref q :: cr ∧ as[a]? = some q ∧ sd_RL as r cr := by
  rcases m with _ | ⟨w, m⟩
  · exact h.elim
  · obtain ⟨h1, h2⟩ := h
    cases w <;> first | exact h1.elim | exact ⟨_, _, rfl, h1, h2⟩
theorem sd_RL_n {as : List Nat} {r : List sd_V} {m : List Value} (h : sd_RL as (.inr (.inr none) :: r) m) : ∃ (cr : List Value), m = .null :: cr ∧ sd_RL as r cr := by
  rcases m with _ | ⟨w, m⟩
  · exact h.elim
  · obtain ⟨h1, h2⟩ := h
    cases w <;> first | exact h1.elim | exact ⟨_, rfl, h2⟩
theorem sd_RL_v {as : List Nat} {v : sd_V} {r : List sd_V} {m : List Value} (h : sd_RL as (v :: r) m) : ∃ (w : Value) (cr : List Value), m = w :: cr ∧ sd_R as v w ∧ sd_RL as r cr := by
  rcases m with _ | ⟨w, m⟩
  · exact h.elim
  · exact ⟨w, m, rfl, h.1, h.2⟩
/-- a cell -/
def sd_AR (s : State) (cA : ClassId) (ty : FieldType) : Prop := ArrOfT s cA ty ∧ va_RA s cA ty
def sd_RC (s : State) (as : List Nat) (e : sd_E) (e2 : va_E) : Prop := match e, e2 with
  | .inl (ci, fs), .inr (cj, gs) => ci = cj ∧ sd_RL as fs gs
  | .inr (t, n, f), .inl (cA, m, .inl g) => m = n ∧ (∃ ty, sd_AR s cA ty ∧ ((t = 0 ∧ ty = .int) ∨ (t = 2 ∧ ty = .byte) ∨ (t = 3 ∧ ty = .boolean))) ∧ ∀ j, f j = .inl (g j).toInt
  | .inr (t, n, f), .inl (cA, m, .inr (.inl g)) => m = n ∧ sd_AR s cA .long ∧ t = 1 ∧ ∀ j, f j = .inr (.inl (g j).toInt)
  | .inr (t, n, f), .inl (cA, m, .inr (.inr (.inr (.inr g)))) => m = n ∧ (∃ ci q, vwCl[ci]? = some q ∧ t = 4 + ci ∧ sd_AR s cA (.object q.1)) ∧ ∀ j, sd_R as (f j) (va_rf (g j))
  | _, _ => False
theorem sd_AR_mv {u U : State} (hvm : u.vm.Alike U.vm) {cA : ClassId} {ty : FieldType} (h : sd_AR u cA ty) : sd_AR U cA ty := ⟨arrOfT_moved hvm h.1, h.2.moved hvm⟩
theorem sd_AR_K {D : va_G} {s : State} {cA : ClassId} {ty : FieldType} (hK : va_K D vwCl [] s) (h : sd_AR s cA ty) : va_K D vwCl [(cA, ty)] s := by
  refine ⟨hK.1, fun k q hk => ?_⟩
  have hz : k < 1 := (List.getElem?_eq_some_iff.mp hk).1
  rw [show k = 0 by omega] at hk
  cases hk
  exact h
theorem sd_RC_ext {s : State} {as ex : List Nat} {e : sd_E} {e2 : va_E} (h : sd_RC s as e e2) : sd_RC s (as ++ ex) e e2 := by
  rcases e with ⟨ci, fs⟩ | ⟨t, n, f⟩ <;> rcases e2 with ⟨cA, m, g | g | g | g | g⟩ | ⟨cj, gs⟩ <;> first | exact h.elim | exact h | skip
  · exact ⟨h.1, sd_RL_ext h.2⟩
  · exact ⟨h.1, h.2.1, fun j => sd_R_ext (h.2.2 j)⟩
theorem sd_RC_mv {u U : State} (hvm : u.vm.Alike U.vm) {as : List Nat} {e : sd_E} {e2 : va_E} (h : sd_RC u as e e2) : sd_RC U as e e2 := by
  rcases e with ⟨ci, fs⟩ | ⟨t, n, f⟩ <;> rcases e2 with ⟨cA, m, g | g | g | g | g⟩ | ⟨cj, gs⟩ <;> first | exact h.elim | skip
  · exact h
  · obtain ⟨h1, ⟨ty, h2, h3⟩, h4⟩ := h
    exact ⟨h1, ⟨ty, sd_AR_mv hvm h2, h3⟩, h4⟩
  · obtain ⟨h1, h2, h3⟩ := h
    exact ⟨h1, sd_AR_mv hvm h2, h3⟩
  · obtain ⟨h1, ⟨ci, q, h2, h3, h4⟩, h5⟩ := h
    exact ⟨h1, ⟨ci, q, h2, h3, sd_AR_mv hvm h4⟩, h5⟩
/-- the row of cells -/
def sd_RW (s : State) (E : List sd_E) (ws : va_W) : Prop := ws.length = E.length ∧ ∀ (k : Nat) (e : sd_E), E[k]? = some e → ∃ (q : Nat) (e2 : va_E), ws[k]? = some (q, e2) ∧ sd_RC s (ws.map (fun q => q.1)) e e2
theorem sd_RW_mv {u U : State} (hvm : u.vm.Alike U.vm) {E : List sd_E} {ws : va_W} (h : sd_RW u E ws) : sd_RW U E ws := ⟨h.1, fun k e hk => by
  obtain ⟨q, e2, h1, h2⟩ := h.2 k e hk
  exact ⟨q, e2, h1, sd_RC_mv hvm h2⟩⟩
/-- a cell by the place that is its address -/
theorem sd_RW_get {s : State} {E : List sd_E} {ws : va_W} {a q : Nat} {e : sd_E} (h : sd_RW s E ws) (he : E[a]? = some e) (hq : (ws.map (fun q => q.1))[a]? = some q) : ∃ e2, ws[a]? = some (q, e2) ∧ sd_RC s (ws.map (fun q => q.1)) e e2 := by
  obtain ⟨q2, e2, h1, h2⟩ := h.2 a e he
  rw [List.getElem?_map, h1] at hq
  cases hq
  exact ⟨e2, h1, h2⟩
theorem sd_as_set {ws : va_W} {a q : Nat} {e e2 : va_E} (h : ws[a]? = some (q, e)) : (ws.set a (q, e2)).map (fun q => q.1) = ws.map (fun q => q.1) := by
  rw [List.map_set]
  apply List.ext_getElem?
  intro k
  rw [List.getElem?_set]
  split
  · rename_i hk
    subst hk
    rw [List.getElem?_map, h]
    rw [List.length_map]
    rw [if_pos (List.getElem?_eq_some_iff.mp h).1]
    rfl
  · rfl
theorem sd_RW_set {s : State} {E : List sd_E} {ws : va_W} {a q : Nat} {e : sd_E} {e0 e2 : va_E} (h : sd_RW s E ws) (hw : ws[a]? = some (q, e0)) (hc : sd_RC s (ws.map (fun q => q.1)) e e2) : sd_RW s (E.set a e) (ws.set a (q, e2)) := by
  refine ⟨by simp [h.1], fun k e' hk => ?_⟩
  rw [sd_as_set hw]
  by_cases hka : k = a
  · subst hka
    have hl : k < E.length := by rw [← h.1]; exact (List.getElem?_eq_some_iff.mp hw).1
    rw [List.getElem?_set_self hl] at hk
    cases hk
    exact ⟨q, e2, List.getElem?_set_self (List.getElem?_eq_some_iff.mp hw).1, hc⟩
  · rw [List.getElem?_set_ne (Ne.symm hka)] at hk
    obtain ⟨q2, e3, h1, h2⟩ := h.2 k e' hk
    exact ⟨q2, e3, by rw [List.getElem?_set_ne (Ne.symm hka)]; exact h1, h2⟩
theorem sd_RW_push {s : State} {E : List sd_E} {ws : va_W} {q : Nat} {e : sd_E} {e2 : va_E} (h : sd_RW s E ws) (hc : sd_RC s (ws.map (fun q => q.1)) e e2) : sd_RW s (E ++ [e]) (ws ++ [(q, e2)]) := by
  refine ⟨by simp [h.1], fun k e' hk => ?_⟩
  rw [List.map_append]
  by_cases hl : k < E.length
  · rw [List.getElem?_append_left hl] at hk
    obtain ⟨q2, e3, h1, h2⟩ := h.2 k e' hk
    exact ⟨q2, e3, by rw [List.getElem?_append_left (by rw [h.1]; exact hl)]; exact h1, sd_RC_ext h2⟩
  · rw [List.getElem?_append_right (by omega)] at hk
    have hz : k - E.length < 1 := (List.getElem?_eq_some_iff.mp hk).1
    rw [show k - E.length = 0 by omega] at hk
    cases hk
    refine ⟨q, e2, ?_, sd_RC_ext hc⟩
    rw [List.getElem?_append_right (by rw [h.1]; omega), h.1, show k - E.length = 0 by omega]
    rfl
