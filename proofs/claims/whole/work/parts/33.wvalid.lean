-- words whose digits are letters
def jdg (h : Nat) (w : Nat) : Prop := if w = 0 then True else (1 ≤ w % 16 ∧ w % 16 ≤ h) ∧ jdg h (w / 16)
theorem jdg_0 (h : Nat) : jdg h 0 := by rw [jdg]; simp
theorem jdg_s {h w : Nat} (hw : w ≠ 0) : jdg h w ↔ (1 ≤ w % 16 ∧ w % 16 ≤ h) ∧ jdg h (w / 16) := by rw [jdg, if_neg hw]
theorem jdg_div {h : Nat} : ∀ i w, jdg h w → jdg h (w / 16 ^ i) := by
  intro i
  induction i with
  | zero => intro w hw; rw [Nat.pow_zero, Nat.div_one]; exact hw
  | succ i ih =>
    intro w hw
    rw [Nat.pow_succ, Nat.mul_comm, ← Nat.div_div_eq_div_mul]
    refine ih _ ?_
    by_cases h0 : w = 0
    · subst h0; rw [Nat.zero_div]; exact jdg_0 h
    · exact ((jdg_s h0).mp hw).2
theorem jdg_dig {h w i : Nat} (hw : jdg h w) (hi : i < jlen w) : 1 ≤ jdig w (jlen w) i ∧ jdig w (jlen w) i ≤ h := by
  have h1 : w / 16 ^ (jlen w - 1 - i) ≠ 0 := (jlen_at _ w).mpr (by omega)
  exact ((jdg_s h1).mp (jdg_div _ w hw)).1
theorem jokw_iff (h : Nat) : ∀ n w, jokw n h w = true ↔ jdg h w ∧ w < 16 ^ n := by
  intro n
  induction n with
  | zero =>
    intro w
    rw [jokw, Nat.pow_zero]
    constructor
    · intro z; simp at z; subst z; exact ⟨jdg_0 h, by decide⟩
    · rintro ⟨-, z⟩; simp; omega
  | succ n ih =>
    intro w
    rw [jokw]
    by_cases h0 : w = 0
    · subst h0; simp [jdg_0, Nat.pow_pos]
    · rw [show (w == 0) = false by simp [h0], Bool.false_or, Bool.and_eq_true, decide_eq_true_eq, ih, jdg_s h0, Nat.pow_succ]
      constructor
      · rintro ⟨a, b, c⟩; exact ⟨⟨a, b⟩, by omega⟩
      · rintro ⟨⟨a, b⟩, c⟩; exact ⟨a, b, by omega⟩
theorem jlen_app {a c : Nat} (hc : 1 ≤ c) (hc16 : c < 16) : jlen (a * 16 + c) = jlen a + 1 := by
  rw [jlen_s (by omega), show (a * 16 + c) / 16 = a by omega]
theorem jmap_dg {f : Nat → Nat} {h : Nat} (hf : ∀ c, 1 ≤ c → c ≤ 4 → 1 ≤ f c ∧ f c ≤ h) (hh : h < 16) : ∀ w, jdg 4 w → jdg h (jmap f w) ∧ jlen (jmap f w) = jlen w := by
  intro w
  induction w using Nat.strongRecOn with
  | ind w ih =>
    intro hw
    by_cases h0 : w = 0
    · subst h0; rw [jmap_0]; exact ⟨jdg_0 h, rfl⟩
    · obtain ⟨⟨w1, w2⟩, w3⟩ := (jdg_s h0).mp hw
      obtain ⟨i1, i2⟩ := ih (w / 16) (by omega) w3
      obtain ⟨f1, f2⟩ := hf _ w1 w2
      rw [jmap_s f h0]
      refine ⟨?_, ?_⟩
      · rw [jdg_s (by omega), show (jmap f (w / 16) * 16 + f (w % 16)) % 16 = f (w % 16) by omega, show (jmap f (w / 16) * 16 + f (w % 16)) / 16 = jmap f (w / 16) by omega]
        exact ⟨⟨f1, f2⟩, i1⟩
      · rw [jlen_app f1 (by omega), i2, jlen_s h0]
/-- a and then b -/
theorem jcat_add (a b : Nat) : a * 2 ^ (4 * jlen b) ||| b = a * 16 ^ jlen b + b := by
  rw [Nat.mul_comm, ← Nat.two_pow_add_eq_or_of_lt (by rw [jp16]; exact jlen_lt (Nat.le_refl _)), jp16, Nat.mul_comm]
theorem jadd_dg {h : Nat} (hh : h < 16) {a : Nat} (ha : jdg h a) : ∀ b, jdg h b → jdg h (a * 16 ^ jlen b + b) ∧ jlen (a * 16 ^ jlen b + b) = jlen a + jlen b := by
  intro b
  induction b using Nat.strongRecOn with
  | ind b ih =>
    intro hb
    by_cases h0 : b = 0
    · subst h0; rw [jlen_0, Nat.pow_zero, Nat.mul_one, Nat.add_zero, Nat.add_zero]; exact ⟨ha, rfl⟩
    · obtain ⟨⟨b1, b2⟩, b3⟩ := (jdg_s h0).mp hb
      obtain ⟨i1, i2⟩ := ih (b / 16) (by omega) b3
      have hb16 : b / 16 * 16 + b % 16 = b := by omega
      have e : a * 16 ^ jlen b + b = (a * 16 ^ jlen (b / 16) + b / 16) * 16 + b % 16 := by
        rw [jlen_s h0, Nat.pow_succ, ← Nat.mul_assoc, Nat.add_mul]
        omega
      rw [e]
      refine ⟨?_, ?_⟩
      · rw [jdg_s (by omega), show ((a * 16 ^ jlen (b / 16) + b / 16) * 16 + b % 16) % 16 = b % 16 by omega, show ((a * 16 ^ jlen (b / 16) + b / 16) * 16 + b % 16) / 16 = a * 16 ^ jlen (b / 16) + b / 16 by omega]
        exact ⟨⟨b1, b2⟩, i1⟩
      · rw [jlen_app b1 (by omega), i2, jlen_s h0]; omega
/-- a word that a value may be -/
def jwv (w : Nat) : Prop := jdg 8 w ∧ w < 2 ^ 60
theorem jwv.dig {w i : Nat} (h : jwv w) (hi : i < jlen w) : 1 ≤ jdig w (jlen w) i ∧ jdig w (jlen w) i ≤ 8 := jdg_dig h.1 hi
theorem jcat_wv {a b : Nat} (ha : jwv a) (hb : jwv b) (h : jcat a b ≠ jOV) : jwv (jcat a b) := by
  have h1 : jcat a b < 2 ^ 60 := by
    rcases jcat_ok a b hb.2 ha.2 with z | z
    · exact absurd z h
    · exact z
  refine ⟨?_, h1⟩
  unfold jcat at h ⊢
  by_cases hl : jlen a + jlen b > 15
  · rw [if_pos hl] at h; exact absurd rfl h
  · rw [if_neg hl, jcat_add]
    exact (jadd_dg (by decide) ha.1 b hb.1).1
theorem jimg_wv {c f : Nat} (h1 : 1 ≤ c) (h8 : c ≤ 8) : jwv (jimg c f) := by
  have hs : ∀ c, 1 ≤ c → c ≤ 8 → jwv c := fun c a b => ⟨by rw [jdg_s (by omega), show c % 16 = c by omega, show c / 16 = 0 by omega]; exact ⟨⟨a, b⟩, jdg_0 8⟩, by omega⟩
  unfold jimg
  split
  · split
    · exact ⟨jdg_0 8, by decide⟩
    · exact hs c h1 h8
  · split
    · split
      · rename_i z; exact hs _ (by omega) (by unfold jsym at z; omega)
      · exact hs c h1 h8
    · split
      · have hl : 1 ≤ jlet 4 (jtnt c) ∧ jlet 4 (jtnt c) ≤ 8 := by unfold jlet; split <;> decide
        have e : jlet 4 (jtnt c) * 16 ||| c = jlet 4 (jtnt c) * 16 + c := by
          rw [Nat.mul_comm, show (16 : Nat) = 2 ^ 4 from rfl, ← Nat.two_pow_add_eq_or_of_lt (by omega)]
        rw [e]
        refine ⟨?_, by omega⟩
        rw [jdg_s (by omega), show (jlet 4 (jtnt c) * 16 + c) % 16 = c by omega, show (jlet 4 (jtnt c) * 16 + c) / 16 = jlet 4 (jtnt c) by omega]
        exact ⟨⟨h1, h8⟩, (hs _ hl.1 hl.2).1⟩
      · exact hs c h1 h8
theorem japp_wv {f : Nat} : ∀ w, jdg 8 w → japp f w ≠ jOV → jwv (japp f w) := by
  intro w
  induction w using Nat.strongRecOn with
  | ind w ih =>
    intro hw h
    by_cases h0 : w = 0
    · subst h0; rw [japp_0]; exact ⟨jdg_0 8, by decide⟩
    · obtain ⟨⟨w1, w2⟩, w3⟩ := (jdg_s h0).mp hw
      rw [japp_s f h0] at h ⊢
      by_cases hov : japp f (w / 16) = jOV
      · rw [if_pos hov] at h; exact absurd rfl h
      · rw [if_neg hov] at h ⊢
        exact jcat_wv (ih (w / 16) (by omega) w3 hov) (jimg_wv w1 w2) h
