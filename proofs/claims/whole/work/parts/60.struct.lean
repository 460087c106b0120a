-- how a program's blocks lie: the open blocks (head, part) before each line, innermost first
def jSl (K M L : Nat → Nat) (σ : Nat → List (Nat × Nat)) (i : Nat) : Prop :=
  (K i ≤ 4 ∧ σ (i + 1) = σ i) ∨
  ((K i = 5 ∨ K i = 7) ∧ σ (i + 1) = (i, i) :: σ i ∧ L i = (σ i).length ∧ (σ i).length < 3) ∨
  (K i = 6 ∧ ∃ h t, σ i = (h, h) :: t ∧ K h = 5 ∧ M h = i ∧ σ (i + 1) = (h, i) :: t) ∨
  (K i = 8 ∧ ∃ h p t, σ i = (h, p) :: t ∧ K h = 5 ∧ M p = i ∧ M i = h ∧ L i = t.length ∧ σ (i + 1) = t) ∨
  (K i = 9 ∧ ∃ h t, σ i = (h, h) :: t ∧ K h = 7 ∧ M h = i ∧ M i = h ∧ L i = t.length ∧ σ (i + 1) = t)
def jSs (n : Nat) (K M L : Nat → Nat) (σ : Nat → List (Nat × Nat)) : Prop := σ 0 = [] ∧ ∀ i, i < n → jSl K M L σ i
/-- what holds of an open block -/
def jTp (n : Nat) (K M L : Nat → Nat) (σ : Nat → List (Nat × Nat)) (i h p : Nat) (t : List (Nat × Nat)) : Prop :=
  h < i ∧ p < i ∧ h < n ∧ p < n ∧ (K h = 5 ∨ K h = 7) ∧ L h = t.length ∧ t.length < 3 ∧ σ h = t ∧ σ (h + 1) = (h, h) :: t ∧ (p = h ∨ (K h = 5 ∧ K p = 6 ∧ M h = p ∧ h < p))
theorem jSs.top {n : Nat} {K M L : Nat → Nat} {σ : Nat → List (Nat × Nat)} (hS : jSs n K M L σ) : ∀ i, i ≤ n → ∀ h p t, σ i = (h, p) :: t → jTp n K M L σ i h p t := by
  intro i
  induction i using Nat.strongRecOn with
  | ind i ih =>
    intro hi h p t hσ
    cases i with
    | zero => rw [hS.1] at hσ; cases hσ
    | succ i =>
      have mono : ∀ j h p t, j ≤ i → jTp n K M L σ j h p t → jTp n K M L σ (i + 1) h p t := fun j h p t hj ⟨a, b, c⟩ => ⟨by omega, by omega, c⟩
      rcases hS.2 i (by omega) with ⟨k, e⟩ | ⟨k, e, e2, e3⟩ | ⟨k, h0, t0, e1, e2, e3, e4⟩ | ⟨k, h0, p0, t0, e1, e2, e3, e4, e5, e6⟩ | ⟨k, h0, t0, e1, e2, e3, e4, e5, e6⟩
      · exact mono i h p t (Nat.le_refl _) (ih i (by omega) (by omega) h p t (by rw [← e]; exact hσ))
      · rw [e] at hσ
        have hp : (i, i) = (h, p) := (List.cons.inj hσ).1
        have ht : σ i = t := (List.cons.inj hσ).2
        have e4 : i = h := (Prod.mk.inj hp).1
        have e5 : i = p := (Prod.mk.inj hp).2
        subst e4 ht e5
        exact ⟨by omega, by omega, by omega, by omega, k, e2, e3, rfl, e, Or.inl rfl⟩
      · rw [e4] at hσ
        have hp : (h0, i) = (h, p) := (List.cons.inj hσ).1
        have ht : t0 = t := (List.cons.inj hσ).2
        have q4 : h0 = h := (Prod.mk.inj hp).1
        have q5 : i = p := (Prod.mk.inj hp).2
        subst q4 ht q5
        obtain ⟨a1, a2, a3, a4, a5, a6, a7, a8, a9, -⟩ := ih i (by omega) (by omega) h0 h0 t0 e1
        exact ⟨by omega, by omega, a3, by omega, a5, a6, a7, a8, a9, Or.inr ⟨e2, k, e3, a1⟩⟩
      · obtain ⟨a1, a2, a3, a4, a5, a6, a7, a8, -⟩ := ih i (by omega) (by omega) h0 p0 t0 e1
        rw [e6] at hσ
        exact mono h0 h p t (by omega) (ih h0 (by omega) (by omega) h p t (by rw [a8]; exact hσ))
      · obtain ⟨a1, a2, a3, a4, a5, a6, a7, a8, -⟩ := ih i (by omega) (by omega) h0 h0 t0 e1
        rw [e6] at hσ
        exact mono h0 h p t (by omega) (ih h0 (by omega) (by omega) h p t (by rw [a8]; exact hσ))
/-- the end of a block -/
def jE (K M : Nat → Nat) (h : Nat) : Nat := if K h = 5 ∧ K (M h) = 6 then M (M h) else M h
theorem jSs.popE {n : Nat} {K M L : Nat → Nat} {σ : Nat → List (Nat × Nat)} (hS : jSs n K M L σ) {i h p : Nat} {t : List (Nat × Nat)} (hi : i < n) (hσ : σ i = (h, p) :: t) (hk : K i = 8 ∨ K i = 9) : jE K M h = i ∧ M i = h ∧ σ (i + 1) = t ∧ L i = t.length ∧ (K i = 8 → K h = 5 ∧ M p = i) ∧ (K i = 9 → K h = 7 ∧ p = h) := by
  have ht := hS.top i (by omega) h p t hσ
  rcases hS.2 i hi with ⟨k, e⟩ | ⟨k, e, e2, e3⟩ | ⟨k, h0, t0, e1, e2, e3, e4⟩ | ⟨k, h0, p0, t0, e1, e2, e3, e4, e5, e6⟩ | ⟨k, h0, t0, e1, e2, e3, e4, e5, e6⟩
  · omega
  · omega
  · omega
  · rw [e1] at hσ
    have hp : (h0, p0) = (h, p) := (List.cons.inj hσ).1
    have ht' : t0 = t := (List.cons.inj hσ).2
    have q4 : h0 = h := (Prod.mk.inj hp).1
    have q5 : p0 = p := (Prod.mk.inj hp).2
    subst q4 ht' q5
    refine ⟨?_, e4, e6, e5, fun _ => ⟨e2, e3⟩, fun z => by omega⟩
    obtain ⟨-, -, -, -, -, -, -, -, -, hp⟩ := ht
    unfold jE
    rcases hp with rfl | ⟨-, k6, m, -⟩
    · rw [if_neg (by rw [e3]; omega)]; exact e3
    · rw [if_pos ⟨e2, by rw [m]; exact k6⟩, m]; exact e3
  · rw [e1] at hσ
    have hp : (h0, h0) = (h, p) := (List.cons.inj hσ).1
    have ht' : t0 = t := (List.cons.inj hσ).2
    have q4 : h0 = h := (Prod.mk.inj hp).1
    have q5 : h0 = p := (Prod.mk.inj hp).2
    subst q4 ht' q5
    refine ⟨?_, e4, e6, e5, fun z => by omega, fun _ => ⟨e2, rfl⟩⟩
    unfold jE
    rw [if_neg (by omega)]
    exact e3
theorem jSs.ends {n : Nat} {K M L : Nat → Nat} {σ : Nat → List (Nat × Nat)} (hS : jSs n K M L σ) (hc : σ n = []) : ∀ m i, i + m = n → ∀ a h p t, σ i = a ++ (h, p) :: t → i ≤ jE K M h ∧ jE K M h < n ∧ M (jE K M h) = h ∧ σ (jE K M h + 1) = t ∧ (K (jE K M h) = 8 ∨ K (jE K M h) = 9) := by
  intro m
  induction m with
  | zero =>
    intro i hi a h p t hσ
    rw [show i = n by omega, hc] at hσ
    cases a <;> cases hσ
  | succ m ih =>
    intro i hi a h p t hσ
    have up : ∀ a' p', σ (i + 1) = a' ++ (h, p') :: t → i ≤ jE K M h ∧ jE K M h < n ∧ M (jE K M h) = h ∧ σ (jE K M h + 1) = t ∧ (K (jE K M h) = 8 ∨ K (jE K M h) = 9) := fun a' p' e => by
      have := ih (i + 1) (by omega) a' h p' t e
      exact ⟨by omega, this.2⟩
    have pop : K i = 8 ∨ K i = 9 → (∀ x t0, σ i = x :: t0 → σ (i + 1) = t0) → i ≤ jE K M h ∧ jE K M h < n ∧ M (jE K M h) = h ∧ σ (jE K M h + 1) = t ∧ (K (jE K M h) = 8 ∨ K (jE K M h) = 9) := fun hk hpop => by
      cases a with
      | nil =>
        obtain ⟨b1, b2, b3, -⟩ := hS.popE (by omega) hσ hk
        rw [b1]
        exact ⟨Nat.le_refl _, by omega, b2, b3, hk⟩
      | cons x a => exact up a p (hpop _ _ hσ)
    rcases hS.2 i (by omega) with ⟨k, e⟩ | ⟨k, e, e2, e3⟩ | ⟨k, h0, t0, e1, e2, e3, e4⟩ | ⟨k, h0, p0, t0, e1, e2, e3, e4, e5, e6⟩ | ⟨k, h0, t0, e1, e2, e3, e4, e5, e6⟩
    · exact up a p (by rw [e]; exact hσ)
    · exact up ((i, i) :: a) p (by rw [e, hσ]; rfl)
    · rw [e1] at hσ
      cases a with
      | nil =>
        have hp : (h0, h0) = (h, p) := (List.cons.inj hσ).1
        have ht' : t0 = t := (List.cons.inj hσ).2
        have q4 : h0 = h := (Prod.mk.inj hp).1
        subst q4 ht'
        exact up [] i e4
      | cons x a =>
        have ht' : t0 = a ++ (h, p) :: t := (List.cons.inj hσ).2
        exact up ((h0, i) :: a) p (by rw [e4, ht']; rfl)
    · exact pop (Or.inl k) (fun x t1 z => by rw [e1] at z; rw [e6]; exact (List.cons.inj z).2)
    · exact pop (Or.inr k) (fun x t1 z => by rw [e1] at z; rw [e6]; exact (List.cons.inj z).2)
/-- the end of the innermost open block, and of the one around it -/
theorem jSs.end1 {n : Nat} {K M L : Nat → Nat} {σ : Nat → List (Nat × Nat)} (hS : jSs n K M L σ) (hc : σ n = []) {i h p : Nat} {t : List (Nat × Nat)} (hi : i ≤ n) (hσ : σ i = (h, p) :: t) : i ≤ jE K M h ∧ jE K M h < n ∧ M (jE K M h) = h ∧ σ (jE K M h + 1) = t ∧ (K (jE K M h) = 8 ∨ K (jE K M h) = 9) := hS.ends hc (n - i) i (by omega) [] h p t hσ
