-- the machine with places instead of addresses: place 0 is the law's script, place k + 1 the k-th cell made since the start
abbrev ja_C : Type := (Nat × vp_A) ⊕ (Nat × List Value)
abbrev ja_H : Type := List ja_C
def ja_p (g : Nat × Nat) (k : Nat) : Nat := match k with
  | 0 => g.1
  | j + 1 => g.2 + j
def ja_v (g : Nat × Nat) (v : Value) : Value := match v with
  | .ref k => .ref (ja_p g k)
  | .int x => .int x
  | .long x => .long x
  | .float x => .float x
  | .double x => .double x
  | .null => .null
  | .retAddr x => .retAddr x
def ja_a (g : Nat × Nat) (a : vp_A) : vp_A := (a.1, match a.2 with
  | .inl f => .inl f
  | .inr (.inl f) => .inr (.inl f)
  | .inr (.inr (.inl f)) => .inr (.inr (.inl f))
  | .inr (.inr (.inr (.inl f))) => .inr (.inr (.inr (.inl f)))
  | .inr (.inr (.inr (.inr f))) => .inr (.inr (.inr (.inr (fun j => (f j).map (ja_p g))))))
def ja_e (D : va_G) (g : Nat × Nat) (c : ja_C) : va_E := match c with
  | .inl x => .inl (D.1 (100 + x.1), ja_a g x.2)
  | .inr x => .inr (x.1, x.2.map (ja_v g))
def ja_w (D : va_G) (g : Nat × Nat) (X : ja_H) : va_W := X.tail.zipIdx.map (fun q => (g.2 + q.2, ja_e D g q.1))
theorem ja_w_get (D : va_G) (g : Nat × Nat) (X : ja_H) (k : Nat) : (ja_w D g X)[k]? = (X[k + 1]?).map (fun c => (g.2 + k, ja_e D g c)) := by
  simp only [ja_w, List.getElem?_map, List.getElem?_zipIdx, List.getElem?_tail, Option.map_map]
  cases X[k + 1]? <;> simp
theorem ja_w_at {D : va_G} {g : Nat × Nat} {X : ja_H} {k : Nat} {c : ja_C} (h : X[k + 1]? = some c) : (ja_w D g X)[k]? = some (g.2 + k, ja_e D g c) := by
  rw [ja_w_get, h]; rfl
theorem ja_w_set (D : va_G) (g : Nat × Nat) (X : ja_H) (k : Nat) (c : ja_C) : (ja_w D g X).set k (g.2 + k, ja_e D g c) = ja_w D g (X.set (k + 1) c) := by
  apply List.ext_getElem?
  intro i
  rw [List.getElem?_set, ja_w_get, ja_w_get, List.getElem?_set]
  by_cases hik : k = i
  · subst hik
    have hl : k < (ja_w D g X).length ↔ k + 1 < X.length := by
      simp [ja_w]; omega
    by_cases h : k + 1 < X.length
    · simp [h, hl.mpr h]
    · simp [h, mt hl.mp h]
  · have : ¬ k + 1 = i + 1 := by omega
    simp [hik]
theorem ja_w_push (D : va_G) (g : Nat × Nat) (X : ja_H) (c : ja_C) {n : Nat} (hn : X.length = n + 1) : ja_w D g X ++ [(g.2 + n, ja_e D g c)] = ja_w D g (X ++ [c]) := by
  cases X with
  | nil => simp at hn
  | cons a t =>
    simp only [List.length_cons] at hn
    have hn : t.length = n := by omega
    simp [ja_w, List.zipIdx_append, hn]
theorem ja_w_D (D : va_G) (g : Nat × Nat) (X : ja_H) : va_D (fun q => g.2 ≤ q) (ja_w D g X) := by
  refine ⟨fun i j p q hp hq h => ?_, fun k q hq => ?_⟩
  · rw [ja_w_get] at hp hq
    cases hi : X[i + 1]? with
    | none => rw [hi] at hp; cases hp
    | some ci =>
      cases hj : X[j + 1]? with
      | none => rw [hj] at hq; cases hq
      | some cj =>
        rw [hi] at hp; rw [hj] at hq
        cases hp; cases hq
        simp only at h
        omega
  · rw [ja_w_get] at hq
    cases hi : X[k + 1]? with
    | none => rw [hi] at hq; cases hq
    | some ci => rw [hi] at hq; cases hq; simp
/-- the locals: what is listed (but for return addresses, which stand for 'nothing known') is held -/
def ja_L (g : Nat × Nat) (nL : Nat) (loc : List Value) (ls : Array Slot) : Prop := ls.size = nL ∧ lv_wf ls ∧ ∀ (i : Nat) (v : Value), loc[i]? = some v → (∀ n, v ≠ .retAddr n) → ls[i]? = some (.val (ja_v g v))
def ja_ok (v : Value) : Prop := ∀ n, v ≠ .retAddr n
theorem ja_ok_i (x : Int32) : ja_ok (.int x) := fun _ h => by cases h
theorem ja_ok_l (x : Int64) : ja_ok (.long x) := fun _ h => by cases h
theorem ja_ok_r (x : Nat) : ja_ok (.ref x) := fun _ h => by cases h
/-- a store of one slot: a long that lies across it is forgotten -/
def ja_s1 (loc : List Value) (i : Nat) (v : Value) : List Value := match i with
  | 0 => loc.set 0 v
  | j + 1 => match loc[j]? with
    | some (.long _) => (loc.set j (.retAddr 0)).set (j + 1) v
    | some (.double _) => (loc.set j (.retAddr 0)).set (j + 1) v
    | _ => loc.set (j + 1) v
/-- a store of two slots -/
def ja_s2 (loc : List Value) (i : Nat) (v : Value) : List Value := (ja_s1 loc i v).set (i + 1) (.retAddr 0)
theorem ja_cat (g : Nat × Nat) (v : Value) : (ja_v g v).category = v.category := by cases v <;> rfl
theorem ja_L.has {g : Nat × Nat} {nL : Nat} {loc : List Value} {ls : Array Slot} (h : ja_L g nL loc ls) : lv_has ls nL (loc.zipIdx.filterMap (fun q => match q.1 with | .retAddr _ => none | v => some (q.2, ja_v g v))) := by
  refine ⟨h.1, h.2.1, fun q hq => ?_⟩
  obtain ⟨⟨v, i⟩, h1, h2⟩ := List.mem_filterMap.mp hq
  have h3 : loc[i]? = some v := List.mem_zipIdx_iff_getElem?.mp h1
  cases v <;> first | (cases h2; done) | (cases h2; exact h.2.2 i _ h3 (fun n h => by cases h))
theorem ja_L.of {g : Nat × Nat} {nL i : Nat} {loc loc' : List Value} {ls' : Array Slot} {v : Value} {F : Nat × Value → Bool} (h' : lv_has ls' nL ((i, ja_v g v) :: (loc.zipIdx.filterMap (fun q => match q.1 with | .retAddr _ => none | v => some (q.2, ja_v g v))).filter F))
    (hs : ∀ (j : Nat) (w : Value), loc'[j]? = some w → (∀ n, w ≠ .retAddr n) → (j = i ∧ w = v) ∨ (loc[j]? = some w ∧ F (j, ja_v g w) = true)) : ja_L g nL loc' ls' := by
  refine ⟨h'.1, h'.2.1, fun j w hw hn => ?_⟩
  rcases hs j w hw hn with ⟨rfl, rfl⟩ | ⟨h1, h2⟩
  · exact h'.2.2 _ List.mem_cons_self
  · refine h'.2.2 (j, ja_v g w) (List.mem_cons_of_mem _ (List.mem_filter.mpr ⟨List.mem_filterMap.mpr ⟨(w, j), List.mem_zipIdx_iff_getElem?.mpr h1, ?_⟩, h2⟩))
    cases w <;> first | rfl | exact absurd rfl (hn _)
theorem ja_s1_get (g : Nat × Nat) {loc : List Value} {i j : Nat} {v w : Value} (hw : (ja_s1 loc i v)[j]? = some w) (hn : ∀ n, w ≠ .retAddr n) : (j = i ∧ w = v) ∨ (loc[j]? = some w ∧ (!(j == i) && !(j + 1 == i && (ja_v g w).category == 2)) = true) := by
  cases i with
  | zero =>
    simp only [ja_s1] at hw
    rw [List.getElem?_set] at hw
    by_cases hj : 0 = j
    · subst hj
      rw [if_pos rfl] at hw
      split at hw <;> cases hw
      exact Or.inl ⟨rfl, rfl⟩
    · rw [if_neg hj] at hw
      exact Or.inr ⟨hw, by simp; omega⟩
  | succ a =>
    have key : ∀ l' : List Value, (l' = loc.set (a + 1) v ∧ (∀ x, loc[a]? = some x → x.category = 1)) ∨ l' = (loc.set a (.retAddr 0)).set (a + 1) v → l'[j]? = some w → (j = a + 1 ∧ w = v) ∨ (loc[j]? = some w ∧ (!(j == a + 1) && !(j + 1 == a + 1 && (ja_v g w).category == 2)) = true) := by
      clear hw
      intro l' hl' hw
      rcases hl' with ⟨rfl, hc⟩ | rfl
      · rw [List.getElem?_set] at hw
        by_cases hj : a + 1 = j
        · subst hj
          rw [if_pos rfl] at hw
          split at hw <;> cases hw
          exact Or.inl ⟨rfl, rfl⟩
        · rw [if_neg hj] at hw
          refine Or.inr ⟨hw, ?_⟩
          by_cases ha : j = a
          · subst ha
            have := hc w hw
            simp [ja_cat, this]
          · have h1 : ¬ j = a + 1 := by omega
            simp [h1, ha]
      · rw [List.getElem?_set] at hw
        by_cases hj : a + 1 = j
        · subst hj
          rw [if_pos rfl] at hw
          split at hw <;> cases hw
          exact Or.inl ⟨rfl, rfl⟩
        · rw [if_neg hj, List.getElem?_set] at hw
          by_cases ha : a = j
          · subst ha
            rw [if_pos rfl] at hw
            split at hw <;> cases hw
            exact absurd rfl (hn 0)
          · rw [if_neg ha] at hw
            have h1 : ¬ j = a + 1 := by omega
            have h2 : ¬ j = a := by omega
            exact Or.inr ⟨hw, by simp [h1, h2]⟩
    refine key _ ?_ hw
    simp only [ja_s1]
    cases h : loc[a]? with
    | none => exact Or.inl ⟨rfl, fun x hx => by cases hx⟩
    | some x => cases x <;> first | exact Or.inr rfl | exact Or.inl ⟨rfl, fun x hx => by cases hx; rfl⟩
theorem ja_L.s1 {g : Nat × Nat} {nL i : Nat} {loc : List Value} {ls' : Array Slot} {v : Value} (h' : lv_has ls' nL ((i, ja_v g v) :: (loc.zipIdx.filterMap (fun q => match q.1 with | .retAddr _ => none | v => some (q.2, ja_v g v))).filter (fun q => !(q.1 == i) && !(q.1 + 1 == i && q.2.category == 2)))) : ja_L g nL (ja_s1 loc i v) ls' :=
  ja_L.of h' fun _ _ hw hn => ja_s1_get g hw hn
theorem ja_L.s2 {g : Nat × Nat} {nL i : Nat} {loc : List Value} {ls' : Array Slot} {v : Value} (h' : lv_has ls' nL ((i, ja_v g v) :: (loc.zipIdx.filterMap (fun q => match q.1 with | .retAddr _ => none | v => some (q.2, ja_v g v))).filter (fun q => !(q.1 == i) && (!(q.1 == i + 1) && !(q.1 + 1 == i && q.2.category == 2))))) : ja_L g nL (ja_s2 loc i v) ls' := by
  refine ja_L.of h' fun j w hw hn => ?_
  simp only [ja_s2] at hw
  rw [List.getElem?_set] at hw
  by_cases hj : i + 1 = j
  · subst hj
    rw [if_pos rfl] at hw
    split at hw <;> cases hw
    exact absurd rfl (hn 0)
  · rw [if_neg hj] at hw
    have hj' : ¬ j = i + 1 := by omega
    rcases ja_s1_get g hw hn with h | ⟨h1, h2⟩
    · exact Or.inl h
    · refine Or.inr ⟨h1, ?_⟩
      simp only [Bool.and_eq_true] at h2 ⊢
      exact ⟨h2.1, by simp [hj'], h2.2⟩
