-- the steps end
/-- the steps end -/
theorem jIt_inv {n : Nat} {K V A B M L : Nat → Nat} {σ : Nat → List (Nat × Nat)} (hS : jSs n K M L σ) (hc : σ n = []) (hK : ∀ i, i < n → K i < 10) (hV : ∀ i, i < n → V i < 5) {s : jSt} {hw : Nat} (hI : jDI n K A σ s hw) : ∀ k, (∃ hw', jDI n K A σ (jIt n K V A B M L s k) hw') ∧ (n ≤ (jIt n K V A B M L s k).1 ∨ jPh n K M σ (jIt n K V A B M L s k) + k ≤ jPh n K M σ s) := by
  intro k
  induction k with
  | zero => exact ⟨⟨hw, hI⟩, Or.inr (Nat.le_refl _)⟩
  | succ k ih =>
    obtain ⟨⟨hw', h1⟩, h2⟩ := ih
    by_cases hlt : (jIt n K V A B M L s k).1 < n
    · obtain ⟨a, b⟩ := jStep_ok hS hc hK hV (B := B) h1 hlt
      refine ⟨⟨_, a⟩, Or.inr ?_⟩
      show jPh n K M σ (jStep n K V A B M L (jIt n K V A B M L s k)) + (k + 1) ≤ _
      rcases h2 with h2 | h2
      · omega
      · omega
    · have e : jIt n K V A B M L s (k + 1) = jIt n K V A B M L s k := if_neg hlt
      rw [e]
      exact ⟨⟨hw', h1⟩, Or.inl (by omega)⟩
theorem jIt_stop {n : Nat} {K V A B M L : Nat → Nat} {s : jSt} {k : Nat} (h : n ≤ (jIt n K V A B M L s k).1) : ∀ m, jIt n K V A B M L s (k + m) = jIt n K V A B M L s k
  | 0 => rfl
  | m + 1 => by
    show jStep n K V A B M L (jIt n K V A B M L s (k + m)) = _
    rw [jIt_stop h m]
    exact if_neg (by omega)
noncomputable def jEps : jLan := jMk (fun v => decide (v = jWl 0))
noncomputable def jS0 : jSt := (0, fun _ => 0, fun _ => jEps, fun _ => none, fun _ => none, fun _ => none)
theorem jS0_inv {n : Nat} {K M L A : Nat → Nat} {σ : Nat → List (Nat × Nat)} (hS : jSs n K M L σ) : jDI n K A σ jS0 0 := ⟨Nat.zero_le _, Nat.le_refl _, Nat.zero_le _, by show jDs _ _ (σ 0); rw [hS.1]; exact trivial, fun v _ => jMk_ok _, fun i L e => (by cases e), fun i L e => (by cases e), fun i L e => (by cases e), fun j hj => absurd hj (by omega)⟩
theorem jS0_ph {n : Nat} {K M L : Nat → Nat} {σ : Nat → List (Nat × Nat)} (hS : jSs n K M L σ) (hn : n ≤ 24) : jPh n K M σ jS0 < 9000000 := by
  show jPhi n _ _ (σ 0) 0 < 9000000
  rw [hS.1]
  show (n - 0) * 117649 < 9000000
  omega
/-- the analysis's result -/
noncomputable def jFin (n : Nat) (K V A B M L : Nat → Nat) : jSt := jIt n K V A B M L jS0 9000000
theorem jFin_n {n : Nat} {K V A B M L : Nat → Nat} {σ : Nat → List (Nat × Nat)} (hS : jSs n K M L σ) (hc : σ n = []) (hK : ∀ i, i < n → K i < 10) (hV : ∀ i, i < n → V i < 5) (hn : n ≤ 24) : jDI n K A σ (jFin n K V A B M L) n ∧ (jFin n K V A B M L).1 = n := by
  obtain ⟨⟨hw, h1⟩, h2⟩ := jIt_inv hS hc hK hV (B := B) (jS0_inv (A := A) hS) 9000000
  have h3 := jS0_ph (K := K) (M := M) hS hn
  have h4 : n ≤ (jFin n K V A B M L).1 := h2.elim id (fun z => by omega)
  have h5 : (jFin n K V A B M L).1 ≤ n := h1.1
  have h6 : (jFin n K V A B M L).1 ≤ hw := h1.2.1
  have h7 : hw ≤ n := h1.2.2.1
  have h8 : hw = n := by omega
  subst h8
  exact ⟨h1, by omega⟩
theorem jFin_eq {n : Nat} {K V A B M L : Nat → Nat} {i : Nat} (hi : i ≤ 9000000) (h : n ≤ (jIt n K V A B M L jS0 i).1) : jFin n K V A B M L = jIt n K V A B M L jS0 i := by
  have := jIt_stop h (9000000 - i)
  rw [Nat.add_sub_cancel' hi] at this
  exact this
theorem jIt_rd {n : Nat} {K V A B M L : Nat → Nat} : ∀ k h, (jIt n K V A B M L jS0 k).2.1 h ≤ k := by
  intro k
  induction k with
  | zero => intro h; exact Nat.le_refl 0
  | succ k ih =>
    intro h
    show (jStep n K V A B M L (jIt n K V A B M L jS0 k)).2.1 h ≤ k + 1
    generalize jIt n K V A B M L jS0 k = s at ih
    obtain ⟨i, rd, nw, bf, bg, sk⟩ := s
    have ih : ∀ h, rd h ≤ k := ih
    have ihh := ih h
    unfold jStep
    split
    · show (jGo K V A B M L i rd nw bf bg sk).2.1 h ≤ k + 1
      have up : ∀ j w, w ≤ k + 1 → va_up rd j w h ≤ k + 1 := fun j w hw => by
        by_cases hj : h = j
        · subst hj; rw [jup_self]; exact hw
        · rw [jup_ne hj]; omega
      have h1 : rd h ≤ k + 1 := by omega
      unfold jGo
      split
      · exact h1
      · split
        · exact h1
        · split
          · exact h1
          · split
            · exact up _ _ (by omega)
            · split
              · split
                · exact h1
                · exact h1
              · split
                · exact up _ _ (by have := ih (M i); omega)
                · exact h1
    · show rd h ≤ k + 1
      omega
