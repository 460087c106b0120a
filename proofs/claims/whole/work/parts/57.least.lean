-- the least word: shortest first, then by letters; breadth first finds it
/-- strictly before, among words of one length -/
def jlt : List Nat → List Nat → Prop
  | [], _ => False
  | _ :: _, [] => False
  | a :: u, b :: v => a < b ∨ (a = b ∧ jlt u v)
/-- strictly before: shorter, or as long and before by letters -/
def jsl (u v : List Nat) : Prop := u.length < v.length ∨ (u.length = v.length ∧ jlt u v)
theorem jlt_app : ∀ (u v : List Nat) (a b : Nat), u.length = v.length → (jlt (u ++ [a]) (v ++ [b]) ↔ jlt u v ∨ (u = v ∧ a < b)) := by
  intro u
  induction u with
  | nil =>
    intro v a b h
    cases v with
    | nil => simp [jlt]
    | cons _ _ => cases h
  | cons x u ih =>
    intro v a b h
    cases v with
    | nil => cases h
    | cons y v =>
      have h' : u.length = v.length := by simpa using h
      show (x < y ∨ (x = y ∧ jlt (u ++ [a]) (v ++ [b]))) ↔ (x < y ∨ (x = y ∧ jlt u v)) ∨ (x :: u = y :: v ∧ a < b)
      rw [ih v a b h']
      constructor
      · rintro (h | ⟨h, h2 | ⟨h2, h3⟩⟩)
        · exact Or.inl (Or.inl h)
        · exact Or.inl (Or.inr ⟨h, h2⟩)
        · exact Or.inr ⟨by rw [h, h2], h3⟩
      · rintro ((h | ⟨h, h2⟩) | ⟨h, h3⟩)
        · exact Or.inl h
        · exact Or.inr ⟨h, Or.inl h2⟩
        · obtain ⟨h1, h2⟩ := List.cons.inj h
          exact Or.inr ⟨h1, Or.inr ⟨h2, h3⟩⟩
theorem jlt_tr : ∀ (u v w : List Nat), jlt u v → jlt v w → jlt u w := by
  intro u
  induction u with
  | nil => intro v w h _; exact h.elim
  | cons x u ih =>
    intro v w h1 h2
    cases v with
    | nil => exact h1.elim
    | cons y v =>
      cases w with
      | nil => exact h2.elim
      | cons z w =>
        rcases h1 with h1 | ⟨h1, h1'⟩ <;> rcases h2 with h2 | ⟨h2, h2'⟩
        · exact Or.inl (Nat.lt_trans h1 h2)
        · exact Or.inl (h2 ▸ h1)
        · exact Or.inl (h1 ▸ h2)
        · exact Or.inr ⟨h1.trans h2, ih v w h1' h2'⟩
theorem jlt_ir : ∀ (u : List Nat), ¬ jlt u u := by
  intro u
  induction u with
  | nil => exact fun h => h
  | cons x u ih => rintro (h | ⟨-, h⟩); exact Nat.lt_irrefl _ h; exact ih h
theorem jsl_tr {u v w : List Nat} (h1 : jsl u v) (h2 : jsl v w) : jsl u w := by
  rcases h1 with h1 | ⟨h1, h1'⟩ <;> rcases h2 with h2 | ⟨h2, h2'⟩
  · exact Or.inl (Nat.lt_trans h1 h2)
  · exact Or.inl (h2 ▸ h1)
  · exact Or.inl (h1 ▸ h2)
  · exact Or.inr ⟨h1.trans h2, jlt_tr u v w h1' h2'⟩
theorem jsl_ir (u : List Nat) : ¬ jsl u u := by
  rintro (h | ⟨-, h⟩)
  · exact Nat.lt_irrefl _ h
  · exact jlt_ir u h
theorem jsl_app {u v : List Nat} {a b : Nat} (h : jsl u v ∨ (u = v ∧ a < b)) : jsl (u ++ [a]) (v ++ [b]) := by
  rcases h with (h | ⟨h, h2⟩) | ⟨h, h2⟩
  · exact Or.inl (by simpa using h)
  · exact Or.inr ⟨by simpa using h, (jlt_app u v a b h).mpr (Or.inl h2)⟩
  · exact Or.inr ⟨by simp [h], (jlt_app u v a b (by rw [h])).mpr (Or.inr ⟨h, h2⟩)⟩
/-- w is the least word of P -/
def jLst (P : List Nat → Bool) (w : List Nat) : Prop := jok w ∧ P w = true ∧ ∀ v, jok v → P v = true → w = v ∨ jsl w v
theorem jLst.uniq {P Q : List Nat → Bool} {u v : List Nat} (h : jLst P u) (h' : jLst Q v) (he : ∀ w, jok w → P w = Q w) : u = v := by
  rcases h.2.2 v h'.1 (by rw [he v h'.1]; exact h'.2.1) with z | z
  · exact z
  · rcases h'.2.2 u h.1 (by rw [← he u h.1]; exact h.2.1) with y | y
    · exact y.symm
    · exact absurd (jsl_tr z y) (jsl_ir u)
section JLE
variable {n : Nat} {δ e : Nat → Nat}
theorem jpw_st (h : jbfs n δ e) {q : Nat} (h1 : 1 ≤ q) (hq : q < n) : jpw e q q = jpw e (e q / 8) (e q / 8) ++ [e q % 8] := by
  obtain ⟨c1, c2, c3⟩ := h
  obtain ⟨a, b, c⟩ := c3 q h1 hq
  have he : ∀ j, 1 ≤ j → j < n → e j < 8 * j := fun j h1 h2 => (c3 j h1 h2).2.2
  cases q with
  | zero => omega
  | succ f =>
    rw [jpw, if_neg (by omega), jpw_fuel he f (e (f + 1) / 8) (e (f + 1) / 8) (by omega) (by omega) (Nat.le_refl _)]
theorem jpw_mono (h : jbfs n δ e) : ∀ j, j < n → ∀ i, i < j → jsl (jpw e i i) (jpw e j j) := by
  intro j
  induction j using Nat.strongRecOn with
  | ind j ih =>
    intro hj i hi
    obtain ⟨c1, c2, c3⟩ := id h
    obtain ⟨a, b, c⟩ := c3 j (by omega) hj
    rw [jpw_st h (by omega) hj]
    by_cases h0 : i = 0
    · subst h0; exact Or.inl (by simp [jpw])
    · obtain ⟨a', b', c'⟩ := c3 i (by omega) (by omega)
      rw [jpw_st h (by omega) (by omega)]
      have hlt : e i < e j := by
        rcases Nat.lt_trichotomy (e i) (e j) with z | z | z
        · exact z
        · rw [z, a] at a'; omega
        · have := b' _ z; rw [a] at this; omega
      apply jsl_app
      by_cases hd : e i / 8 = e j / 8
      · exact Or.inr ⟨by rw [hd], by omega⟩
      · exact Or.inl (ih (e j / 8) (by omega) (by omega) (e i / 8) (by omega))
theorem jpw_go (h : jbfs n δ e) : ∀ q, q < n → jok (jpw e q q) ∧ jgo δ 0 (jpw e q q) = q := by
  intro q
  induction q using Nat.strongRecOn with
  | ind q ih =>
    intro hq
    by_cases h0 : q = 0
    · subst h0; exact ⟨fun _ z => (by cases z), rfl⟩
    · obtain ⟨c1, c2, c3⟩ := id h
      obtain ⟨a, b, c⟩ := c3 q (by omega) hq
      obtain ⟨i1, i2⟩ := ih (e q / 8) (by omega) (by omega)
      rw [jpw_st h (by omega) hq]
      refine ⟨jok_app i1 (fun y hy => by rw [List.mem_singleton.mp hy]; omega), ?_⟩
      rw [jgo_app, i2]
      show δ (e q / 8 * 8 + e q % 8) = q
      rw [show e q / 8 * 8 + e q % 8 = e q by omega, a]
theorem jpw_le (h : jbfs n δ e) : ∀ (k : Nat) (w : List Nat), w.length = k → jok w → jpw e (jgo δ 0 w) (jgo δ 0 w) = w ∨ jsl (jpw e (jgo δ 0 w) (jgo δ 0 w)) w := by
  intro k
  induction k with
  | zero => intro w hl _; rw [List.length_eq_zero_iff.mp hl]; exact Or.inl rfl
  | succ k ih =>
    intro w hl hw
    obtain ⟨u, c, rfl⟩ : ∃ u0 d, w = u0 ++ [d] := ⟨w.dropLast, w.getLast (by intro z; rw [z] at hl; cases hl), (List.dropLast_concat_getLast _).symm⟩
    have hu : jok u := fun y hy => hw y (by simp [hy])
    have hc : c < 8 := hw c (by simp)
    obtain ⟨c1, c2, c3⟩ := id h
    have hq : jgo δ 0 u < n := jgo_lt c2 u 0 (by omega) hu
    have i1 := ih u (by simpa using hl) hu
    rw [jgo_app]
    show jpw e (δ (jgo δ 0 u * 8 + c)) (δ (jgo δ 0 u * 8 + c)) = u ++ [c] ∨ jsl (jpw e (δ (jgo δ 0 u * 8 + c)) (δ (jgo δ 0 u * 8 + c))) (u ++ [c])
    generalize hqq : jgo δ 0 u = q at *
    have ht : δ (q * 8 + c) < n := c2 _ (by omega)
    generalize htt : δ (q * 8 + c) = t at *
    by_cases h0 : t = 0
    · right; left; rw [h0]; simp [jpw]
    · obtain ⟨a, b, c'⟩ := c3 t (by omega) ht
      have hle : e t ≤ q * 8 + c := by
        rcases Nat.lt_or_ge (q * 8 + c) (e t) with z | z
        · have := b _ z; omega
        · exact z
      rw [jpw_st h (by omega) ht]
      have s1 : jpw e (e t / 8) (e t / 8) ++ [e t % 8] = jpw e q q ++ [c] ∨ jsl (jpw e (e t / 8) (e t / 8) ++ [e t % 8]) (jpw e q q ++ [c]) := by
        by_cases hd : e t / 8 = q
        · by_cases hc2 : e t % 8 = c
          · exact Or.inl (by rw [hd, hc2])
          · exact Or.inr (jsl_app (Or.inr ⟨by rw [hd], by omega⟩))
        · exact Or.inr (jsl_app (Or.inl (jpw_mono h q hq _ (by omega))))
      rcases i1 with i1 | i1
      · rw [i1] at s1; exact s1
      · have s2 : jsl (jpw e q q ++ [c]) (u ++ [c]) := jsl_app (Or.inl i1)
        rcases s1 with s1 | s1
        · rw [s1]; exact Or.inr s2
        · exact Or.inr (jsl_tr s1 s2)
theorem jpw_lst (h : jbfs n δ e) {a : Nat → Bool} {q : Nat} (hq : q < n) (ha : a q = true) (hl : ∀ i, i < q → a i = false) : jLst (fun w => a (jgo δ 0 w)) (jpw e q q) := by
  obtain ⟨g1, g2⟩ := jpw_go h q hq
  refine ⟨g1, by show a (jgo δ 0 (jpw e q q)) = true; rw [g2]; exact ha, fun v hv hav => ?_⟩
  have hav : a (jgo δ 0 v) = true := hav
  have hvn : jgo δ 0 v < n := jgo_lt h.2.1 v 0 (by have := h.1; omega) hv
  have hle := jpw_le h _ v rfl hv
  rcases Nat.lt_trichotomy (jgo δ 0 v) q with z | z | z
  · rw [hl _ z] at hav; cases hav
  · rw [z] at hle; exact hle
  · have := jpw_mono h _ hvn q z
    rcases hle with y | y
    · rw [y] at this; exact Or.inr this
    · exact Or.inr (jsl_tr this y)
end JLE
