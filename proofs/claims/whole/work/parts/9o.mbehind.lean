-- the model: behind
def jBh (K V A B M : Nat → Nat) (i : Nat) (val : Nat → Nat) : Nat := if K i = 5 ∨ K i = 7 then (if jmeet (val (V i)) (A i) (B i) then i + 1 else M i + 1) else if K i = 6 then M i + 1 else if K i = 9 then M i else i + 1
section JMR5
variable (l : Launch) (D : va_G) (g : Nat × Nat) {X : ja_H} {n : Nat} {K V A B M L : Nat → Nat} {σ : Nat → List (Nat × Nat)}
/-- where a head's block ends, if it has no other part -/
theorem jSs.hd_end (hS : jSs n K M L σ) (hc : σ n = []) {i : Nat} (hi : i < n) (hk : K i = 5 ∨ K i = 7) : (K i = 5 ∧ K (M i) = 6) ∨ (M i < n ∧ 8 ≤ K (M i) ∧ M (M i) = i) := by
  have hsl : σ (i + 1) = (i, i) :: σ i := by
    rcases hS.2 i hi with ⟨k, e⟩ | ⟨k, e, e2, e3⟩ | ⟨k, h0, t0, e1, e2, e3, e4⟩ | ⟨k, h0, p0, t0, e1, e2, e3, e4, e5, e6⟩ | ⟨k, h0, t0, e1, e2, e3, e4, e5, e6⟩
    · omega
    · exact e
    · omega
    · omega
    · omega
  obtain ⟨c1, c2, c3, c4, c5⟩ := hS.end1 hc (by omega) hsl
  by_cases z : K i = 5 ∧ K (M i) = 6
  · exact Or.inl z
  · have e : jE K M i = M i := by unfold jE; rw [if_neg z]
    rw [e] at c2 c3 c5
    exact Or.inr ⟨c2, by omega, c3⟩
theorem jSs.ot_end (hS : jSs n K M L σ) (hc : σ n = []) {i : Nat} (hi : i < n) (hk : K i = 6) : M i < n ∧ 8 ≤ K (M i) := by
  rcases hS.2 i hi with ⟨k, e⟩ | ⟨k, e, e2, e3⟩ | ⟨k, h0, t0, e1, e2, e3, e4⟩ | ⟨k, h0, p0, t0, e1, e2, e3, e4, e5, e6⟩ | ⟨k, h0, t0, e1, e2, e3, e4, e5, e6⟩
  · omega
  · omega
  · obtain ⟨c1, c2, c3, c4, c5⟩ := hS.end1 hc (by omega) e1
    have : jE K M h0 = M i := by unfold jE; rw [e3, if_pos ⟨e2, hk⟩]
    rw [this] at c2 c5
    exact ⟨c2, by omega⟩
  · omega
  · omega
end JMR5
