-- a function of the program, letter by letter, as the model works
theorem jlen_1 {b : Nat} (h1 : 1 ≤ b) (h2 : b < 16) : jlen b = 1 := by rw [jlen_s (by omega), Nat.div_eq_of_lt h2, jlen_0]
theorem jlen_2 {c b : Nat} (h1 : 1 ≤ c) (h2 : c < 16) (h3 : b < 16) : jlen (c * 16 + b) = 2 := by
  rw [jlen_s (by omega), show (c * 16 + b) / 16 = c by omega, jlen_1 h1 h2]
theorem jor16 (a : Nat) {b : Nat} (h : b < 16) : a * 16 ||| b = a * 16 + b := by
  have := Nat.two_pow_add_eq_or_of_lt (i := 4) (b := b) h a
  rw [Nat.mul_comm a 16]
  exact this.symm
theorem jor256 (a : Nat) {b : Nat} (h : b < 256) : a * 256 ||| b = a * 256 + b := by
  have := Nat.two_pow_add_eq_or_of_lt (i := 8) (b := b) h a
  rw [Nat.mul_comm a 256]
  exact this.symm
theorem jcat_0 {a : Nat} (ha : a < 2 ^ 60) : jcat a 0 = a := by
  have := jlen_le (show a < 16 ^ 15 from ha)
  unfold jcat
  rw [jlen_0, if_neg (by omega), Nat.or_zero]
  exact Nat.mul_one a
theorem jcat_1 {a b : Nat} (h1 : 1 ≤ b) (h2 : b < 16) : jcat a b = if 15 ≤ jlen a then jOV else 16 * a + b := by
  unfold jcat
  rw [jlen_1 h1 h2]
  by_cases h : 15 ≤ jlen a
  · rw [if_pos (by omega), if_pos h]
  · rw [if_neg (by omega), if_neg h, show 2 ^ (4 * 1) = 16 from rfl, jor16 a h2, Nat.mul_comm]
theorem jcat_2 {a b c : Nat} (h1 : 1 ≤ c) (h2 : c < 16) (h3 : b < 16) : jcat a (c * 16 ||| b) = if 14 ≤ jlen a then jOV else 16 * (16 * a + c) + b := by
  unfold jcat
  rw [jor16 c h3, jlen_2 h1 h2 h3]
  by_cases h : 14 ≤ jlen a
  · rw [if_pos (by omega), if_pos h]
  · rw [if_neg (by omega), if_neg h, show 2 ^ (4 * 2) = 256 from rfl, jor256 a (by omega)]
    omega
theorem jlen_56 {a : Nat} : 2 ^ 56 ≤ a ↔ 15 ≤ jlen a := by
  have h := jlen_at 14 a
  have e : (16 : Nat) ^ 14 = 2 ^ 56 := by decide
  rw [e] at h
  constructor
  · intro z
    have : a / 2 ^ 56 ≠ 0 := by have := Nat.div_pos z (by decide); omega
    have := h.mp this
    omega
  · intro z
    refine Classical.byContradiction fun y => ?_
    exact h.mpr (by omega) (Nat.div_eq_of_lt (by omega))
theorem jlen_up {a c : Nat} (h1 : 1 ≤ c) (h2 : c < 16) : jlen (16 * a + c) = jlen a + 1 := by
  rw [jlen_s (by omega), show (16 * a + c) / 16 = a by omega]
/-- a letter more, as the model does it; none: too long -/
def jstp (f x : Nat) (o : Option Nat) : Option Nat :=
  let o1 := if f = 0 ∧ 4 < x then o.bind (fun a => if 2 ^ 56 ≤ a then none else some (16 * a + (8 - x % 2))) else o
  if f = 1 ∧ (x = 5 ∨ x = 6) then o1 else o1.bind (fun a => if 2 ^ 56 ≤ a then none else some (16 * a + (if f = 2 ∧ x < 3 then x + 2 else x)))
def jop (n : Nat) : Option Nat := if n = jOV then none else some n
theorem jstp_ok {f x a : Nat} (hf : f < 3) (h1 : 1 ≤ x) (h8 : x ≤ 8) (ha : a < 2 ^ 60) : jstp f x (some a) = jop (jcat a (jimg x f)) := by
  have hlt : ∀ b, b < 2 ^ 64 → b ≠ jOV → jop b = some b := fun b _ hb => by unfold jop; rw [if_neg hb]
  have hov : jop jOV = none := by unfold jop; rw [if_pos rfl]
  have hne : ∀ b, b < 2 ^ 60 → jop b = some b := fun b hb => by
    unfold jop
    rw [if_neg]
    intro z
    have : jOV < 2 ^ 60 := z ▸ hb
    exact absurd this (by unfold jOV; decide)
  have one : ∀ y, 1 ≤ y → y < 16 → (if 2 ^ 56 ≤ a then none else some (16 * a + y)) = jop (jcat a y) := fun y y1 y2 => by
    rw [jcat_1 y1 y2]
    by_cases h : 15 ≤ jlen a
    · rw [if_pos (jlen_56.mpr h), if_pos h, hov]
    · have h' : ¬ 2 ^ 56 ≤ a := fun z => h (jlen_56.mp z)
      rw [if_neg h', if_neg h, hne _ (by omega)]
  unfold jstp jimg
  by_cases f1 : f = 1
  · subst f1
    simp only [show ¬ ((1 : Nat) = 0 ∧ 4 < x) by omega, if_false, true_and, show ¬ ((1 : Nat) = 2 ∧ x < 3) by omega, if_true]
    by_cases hq : x = 5 ∨ x = 6
    · rw [if_pos hq, if_pos (show jsym x = 3 by unfold jsym; omega), jcat_0 ha, hne a ha]
    · rw [if_neg hq, if_neg (show ¬ jsym x = 3 by unfold jsym; omega)]
      exact one x h1 (by omega)
  · by_cases f2 : f = 2
    · subst f2
      simp only [show ¬ ((2 : Nat) = 0 ∧ 4 < x) by omega, if_false, show ¬ ((2 : Nat) = 1 ∧ (x = 5 ∨ x = 6)) by omega, true_and, show ¬ (2 : Nat) = 1 by decide, if_true]
      by_cases hq : x < 3
      · rw [if_pos (show jsym x = 1 by unfold jsym; omega)]
        simp only [hq, if_true]
        exact one (x + 2) (by omega) (by omega)
      · rw [if_neg (show ¬ jsym x = 1 by unfold jsym; omega)]
        simp only [hq, if_false]
        exact one x h1 (by omega)
    · have f0 : f = 0 := by omega
      subst f0
      simp only [true_and, show ¬ ((0 : Nat) = 1 ∧ (x = 5 ∨ x = 6)) by omega, if_false, show ¬ ((0 : Nat) = 2 ∧ x < 3) by omega, show ¬ (0 : Nat) = 1 by decide, show ¬ (0 : Nat) = 2 by decide]
      by_cases hq : 4 < x
      · rw [if_pos hq, if_pos (show jsym x = 3 ∨ jsym x = 4 by unfold jsym; omega)]
        have hc : jlet 4 (jtnt x) = 8 - x % 2 := by
          have : ∀ x, x ≤ 8 → jlet 4 (jtnt x) = 8 - x % 2 := by decide
          exact this x h8
        rw [hc, jcat_2 (by omega) (by omega) (by omega)]
        by_cases h : 15 ≤ jlen a
        · show (if 2 ^ 56 ≤ a then none else some (16 * a + (8 - x % 2))).bind _ = _
          rw [if_pos (jlen_56.mpr h), if_pos (show 14 ≤ jlen a by omega), hov]; rfl
        · have h' : ¬ 2 ^ 56 ≤ a := fun z => h (jlen_56.mp z)
          show (if 2 ^ 56 ≤ a then none else some (16 * a + (8 - x % 2))).bind _ = _
          rw [if_neg h']
          show (if 2 ^ 56 ≤ 16 * a + (8 - x % 2) then none else some (16 * (16 * a + (8 - x % 2)) + x)) = _
          have hu := jlen_up (a := a) (c := 8 - x % 2) (by omega) (by omega)
          by_cases h14 : 14 ≤ jlen a
          · rw [if_pos (jlen_56.mpr (by omega)), if_pos h14, hov]
          · have h2 : ¬ 2 ^ 56 ≤ 16 * a + (8 - x % 2) := fun z => by have := jlen_56.mp z; omega
            rw [if_neg h2, if_neg h14, hne _ (by omega)]
      · rw [if_neg hq, if_neg (show ¬ (jsym x = 3 ∨ jsym x = 4) by unfold jsym; omega)]
        exact one x h1 (by omega)
