-- the automaton of one word
def jst (D i : Nat) : Nat := if i = 0 then 0 else if i < D then i else i + 1
def jix (D q : Nat) : Nat := if q < D then q else q - 1
def jwx (N D : Nat) (d : Nat → Nat) (s : Nat) : Nat := if s / 8 ≠ D ∧ jix D (s / 8) < N ∧ s % 8 = d (jix D (s / 8)) then jst D (jix D (s / 8) + 1) else D
def jsf (d : Nat → Nat) : Nat → Nat → List Nat
  | 0, _ => []
  | k + 1, i => d i :: jsf d k (i + 1)
theorem jsf_len (d : Nat → Nat) : ∀ k i, (jsf d k i).length = k
  | 0, _ => rfl
  | k + 1, i => by rw [jsf, List.length_cons, jsf_len d k (i + 1)]
theorem jst_ne {D i : Nat} (h : 1 ≤ D) : jst D i ≠ D := by unfold jst; repeat' split
                                                           all_goals omega
theorem jix_st {D i : Nat} (h : 1 ≤ D) : jix D (jst D i) = i := by unfold jst jix; repeat' split
                                                                   all_goals omega
theorem jst_ix {D q : Nat} (h : 1 ≤ D) (hq : q ≠ D) : jst D (jix D q) = q := by unfold jst jix; repeat' split
                                                                                all_goals omega
theorem jst_lt {D i j : Nat} (h : 1 ≤ D) (hi : i < j) : jst D i < jst D j := by unfold jst; repeat' split
                                                                                all_goals omega
theorem jst_le {D i : Nat} : jst D i ≤ i + 1 := by unfold jst; repeat' split
                                                   all_goals omega
theorem jix_mono {D p q : Nat} (hp : p ≠ D) (h : p ≤ q) : jix D p ≤ jix D q := by unfold jix; repeat' split
                                                                                  all_goals omega
section JWX
variable {N D : Nat} {d : Nat → Nat}
theorem jwx_D1 (hD : D = if 0 < N ∧ d 0 = 0 then 2 else 1) : 1 ≤ D ∧ D < N + 2 := by
  rw [hD]; split <;> omega
theorem jwx_st (hD : D = if 0 < N ∧ d 0 = 0 then 2 else 1) {i : Nat} (hi : i < N) (hd : d i < 8) : jwx N D d (jst D i * 8 + d i) = jst D (i + 1) := by
  have h1 := (jwx_D1 hD).1
  unfold jwx
  rw [show (jst D i * 8 + d i) / 8 = jst D i by omega, show (jst D i * 8 + d i) % 8 = d i by omega, jix_st h1, if_pos ⟨jst_ne h1, hi, rfl⟩]
theorem jwx_no (hD : D = if 0 < N ∧ d 0 = 0 then 2 else 1) {i c : Nat} (hc : c < 8) (h : i < N → c ≠ d i) : jwx N D d (jst D i * 8 + c) = D := by
  have h1 := (jwx_D1 hD).1
  unfold jwx
  rw [show (jst D i * 8 + c) / 8 = jst D i by omega, show (jst D i * 8 + c) % 8 = c by omega, jix_st h1, if_neg (fun z => h z.2.1 z.2.2)]
theorem jwx_dead (hD : D = if 0 < N ∧ d 0 = 0 then 2 else 1) : ∀ (v : List Nat), jok v → jgo (jwx N D d) D v = D := by
  intro v
  induction v with
  | nil => intro _; rfl
  | cons c v ih =>
    intro hv
    obtain ⟨hc, hv'⟩ := jok_cons.mp hv
    show jgo _ (jwx N D d (D * 8 + c)) v = D
    have : jwx N D d (D * 8 + c) = D := by
      unfold jwx
      rw [show (D * 8 + c) / 8 = D by omega, if_neg (fun z => z.1 rfl)]
    rw [this]
    exact ih hv'
theorem jwx_go (hD : D = if 0 < N ∧ d 0 = 0 then 2 else 1) (hd : ∀ i, i < N → d i < 8) : ∀ k i, i + k = N → ∀ v, jok v → (jgo (jwx N D d) (jst D i) v = jst D N ↔ v = jsf d k i) := by
  have h1 := (jwx_D1 hD).1
  intro k
  induction k with
  | zero =>
    intro i hi v hv
    have hiN : i = N := by omega
    subst hiN
    cases v with
    | nil => exact ⟨fun _ => rfl, fun _ => rfl⟩
    | cons c v =>
      obtain ⟨hc, hv'⟩ := jok_cons.mp hv
      show jgo _ (jwx i D d (jst D i * 8 + c)) v = jst D i ↔ _
      rw [jwx_no hD hc (fun z => absurd z (Nat.lt_irrefl _)), jwx_dead hD v hv']
      exact ⟨fun z => absurd z.symm (jst_ne h1), fun z => by cases z⟩
  | succ k ih =>
    intro i hi v hv
    cases v with
    | nil =>
      show jst D i = jst D N ↔ _
      have := jst_lt h1 (show i < N by omega)
      exact ⟨fun z => by omega, fun z => by cases z⟩
    | cons c v =>
      obtain ⟨hc, hv'⟩ := jok_cons.mp hv
      show jgo _ (jwx N D d (jst D i * 8 + c)) v = jst D N ↔ c :: v = d i :: jsf d k (i + 1)
      by_cases hcd : c = d i
      · subst hcd
        rw [jwx_st hD (by omega) hc, ih (i + 1) (by omega) v hv']
        exact ⟨fun z => by rw [z], fun z => (List.cons.inj z).2⟩
      · rw [jwx_no hD hc (fun _ => hcd), jwx_dead hD v hv']
        exact ⟨fun z => absurd z.symm (jst_ne h1), fun z => absurd (List.cons.inj z).1 hcd⟩
theorem jsf_ok (hd : ∀ i, i < N → d i < 8) : ∀ k i, i + k ≤ N → jok (jsf d k i) := by
  intro k
  induction k with
  | zero => intro i _ _ z; cases z
  | succ k ih => intro i hi; exact jok_cons.mpr ⟨hd i (by omega), ih (i + 1) (by omega)⟩
theorem jwx_has (hD : D = if 0 < N ∧ d 0 = 0 then 2 else 1) (hd : ∀ i, i < N → d i < 8) (hN : N ≤ 22) : jHas (fun v => decide (v = jsf d N 0)) (N + 2) (2 ^ jst D N) (jwx N D d) := by
  obtain ⟨h1, h2⟩ := jwx_D1 hD
  have go := jwx_go hD hd
  have acc : ∀ i, i ≤ N → ∀ v, jok v → ((2 ^ jst D N).testBit (jgo (jwx N D d) (jst D i) v) = true ↔ v = jsf d (N - i) i) := by
    intro i hi v hv
    rw [Nat.testBit_two_pow, decide_eq_true_iff, ← go (N - i) i (by omega) v hv]
    exact eq_comm
  have accD : ∀ v, jok v → (2 ^ jst D N).testBit (jgo (jwx N D d) D v) = false := by
    intro v hv
    rw [jwx_dead hD v hv, Nat.testBit_two_pow, decide_eq_false_iff_not]
    exact jst_ne h1
  have ixle : ∀ q, q < N + 2 → q ≠ D → jix D q ≤ N := by
    intro q hq hne; unfold jix; split <;> omega
  refine ⟨⟨by omega, by omega, Nat.pow_lt_pow_right (by decide) (by have := @jst_le D N; omega), fun s hs => ?_, fun q q' hq hq' he => ?_, fun j hj1 hj2 => ?_⟩, fun v hv => ?_⟩
  · unfold jwx
    split
    · rename_i h; have := @jst_le D (jix D (s / 8) + 1); omega
    · exact h2
  · have one : ∀ q q', q < N + 2 → q' < N + 2 → q ≠ D → (∀ w, jok w → (2 ^ jst D N).testBit (jgo (jwx N D d) q w) = (2 ^ jst D N).testBit (jgo (jwx N D d) q' w)) → q = q' := by
      intro q q' hq hq' hne he
      have e1 := jst_ix h1 hne
      have i1 := ixle q hq hne
      have hw := jsf_ok hd (N - jix D q) (jix D q) (by omega)
      have a1 := (acc (jix D q) i1 _ hw).mpr rfl
      rw [e1, he _ hw] at a1
      by_cases hne' : q' = D
      · rw [hne', accD _ hw] at a1; cases a1
      · have e2 := jst_ix h1 hne'
        have i2 := ixle q' hq' hne'
        rw [← e2] at a1
        have := congrArg List.length ((acc (jix D q') i2 _ hw).mp a1)
        rw [jsf_len, jsf_len] at this
        rw [← e1, ← e2, show jix D q = jix D q' by omega]
    by_cases hne : q = D
    · by_cases hne' : q' = D
      · rw [hne, hne']
      · exact (one q' q hq' hq hne' (fun w hw => (he w hw).symm)).symm
    · exact one q q' hq hq' hne he
  · by_cases hjD : j = D
    · by_cases h0 : 0 < N ∧ d 0 = 0
      · rw [if_pos h0] at hD
        have x0 : jwx N D d 0 = 1 := by
          have := jwx_st (D := D) (d := d) (i := 0) (by rw [hD, if_pos h0]) h0.1 (by omega)
          rw [h0.2] at this
          rw [show (0 : Nat) = jst D 0 * 8 + 0 from rfl, this, hD]; rfl
        have x1 : jwx N D d 1 = D := jwx_no (i := 0) (c := 1) (by rw [hD, if_pos h0]) (by decide) (fun _ => by omega)
        refine ⟨1, by omega, by rw [x1, hjD], fun s' hs' => ?_⟩
        rw [show s' = 0 by omega, x0]; omega
      · rw [if_neg h0] at hD
        have x0 : jwx N D d 0 = D := jwx_no (i := 0) (c := 0) (by rw [hD, if_neg h0]) (by decide) (fun z e => h0 ⟨z, e.symm⟩)
        exact ⟨0, by omega, by rw [x0, hjD], fun s' hs' => absurd hs' (by omega)⟩
    · have e1 := jst_ix h1 hjD
      have i1 := ixle j hj2 hjD
      have ip : 1 ≤ jix D j := by
        rcases Nat.eq_zero_or_pos (jix D j) with z | z
        · rw [z] at e1; have : jst D 0 = 0 := rfl; omega
        · exact z
      have hdi := hd (jix D j - 1) (by omega)
      have x1 := jwx_st hD (i := jix D j - 1) (by omega) hdi
      rw [show jix D j - 1 + 1 = jix D j by omega, e1] at x1
      have hlt := jst_lt h1 (show jix D j - 1 < jix D j by omega)
      rw [e1] at hlt
      refine ⟨_, by omega, x1, fun s' hs' => ?_⟩
      unfold jwx
      split
      · rename_i h
        obtain ⟨z1, z2, z3⟩ := h
        have hmono : jix D (s' / 8) ≤ jix D (jst D (jix D j - 1)) := jix_mono z1 (by omega)
        rw [jix_st h1] at hmono
        by_cases heq : jix D (s' / 8) = jix D j - 1
        · have := jst_ix h1 z1
          rw [heq] at this z3
          omega
        · have := jst_lt h1 (show jix D (s' / 8) + 1 < jix D j by omega)
          rw [e1] at this
          exact this
      · by_cases hjl : j < D
        · exfalso
          have hD2 : 0 < N ∧ d 0 = 0 := Classical.byContradiction fun z => by rw [if_neg z] at hD; omega
          rw [if_pos hD2] at hD
          have hj : j = 1 := by omega
          subst hj
          have : jix D 1 = 1 := by unfold jix; rw [if_pos (by omega)]
          rw [this, hD2.2] at hs'
          have : jst D (1 - 1) = 0 := rfl
          omega
        · omega
  · have := acc 0 (by omega) v hv
    rw [show jst D 0 = 0 from rfl, Nat.sub_zero] at this
    rw [Bool.eq_iff_iff, this, decide_eq_true_iff]
end JWX
/-- the letters of a packed word, from 0 -/
def jWd (w i : Nat) : Nat := jdig w (jlen w) i - 1
def jWl (w : Nat) : List Nat := jsf (jWd w) (jlen w) 0
theorem jws_st (w i : Nat) : jws w i = jst (jwd w) i := rfl
theorem jwf_x {w : Nat} (f : Nat → Int32) (hd : ∀ i, i < jlen w → 1 ≤ jdig w (jlen w) i ∧ jdig w (jlen w) i ≤ 8) : ∀ k, k ≤ jlen w → ∀ j, j < (jlen w + 2) * 8 → jwf w f k j = nI (jwx k (jwd w) (jWd w) j) := by
  have h1 : 1 ≤ jwd w := by unfold jwd; split <;> decide
  intro k
  induction k with
  | zero =>
    intro _ j hj
    rw [jwf, jfl, if_pos ⟨Nat.zero_le _, hj⟩, jwx, if_neg (fun z => absurd z.2.1 (Nat.not_lt_zero _))]
  | succ k ih =>
    intro hk j hj
    have hdk := hd k (by omega)
    rw [jwf]
    by_cases hj' : j = jws w k * 8 + jdig w (jlen w) k - 1
    · rw [hj', pk_us]
      have e : jws w k * 8 + jdig w (jlen w) k - 1 = jst (jwd w) k * 8 + jWd w k := by rw [jws_st]; unfold jWd; omega
      have hw : jWd w k < 8 := by unfold jWd; omega
      rw [e, jwx, show (jst (jwd w) k * 8 + jWd w k) / 8 = jst (jwd w) k by omega, show (jst (jwd w) k * 8 + jWd w k) % 8 = jWd w k by omega, jix_st h1, if_pos ⟨jst_ne h1, by omega, rfl⟩]
      rfl
    · rw [pk_un hj', ih (by omega) j hj]
      have hne : ¬ (j / 8 ≠ jwd w ∧ jix (jwd w) (j / 8) = k ∧ j % 8 = jWd w k) := by
        rintro ⟨z1, z2, z3⟩
        have := jst_ix h1 z1
        rw [z2] at this
        rw [jws_st] at hj'
        unfold jWd at z3
        omega
      unfold jwx
      by_cases hc : j / 8 ≠ jwd w ∧ jix (jwd w) (j / 8) < k ∧ j % 8 = jWd w (jix (jwd w) (j / 8))
      · rw [if_pos hc, if_pos ⟨hc.1, by omega, hc.2.2⟩]
      · rw [if_neg hc, if_neg]
        rintro ⟨z1, z2, z3⟩
        by_cases hk' : jix (jwd w) (j / 8) = k
        · exact hne ⟨z1, hk', by rw [← hk']; exact z3⟩
        · exact hc ⟨z1, by omega, z3⟩
section JWL
variable (l : Launch) (D : va_G) (g : Nat × Nat) {X : ja_H}
theorem w_L_becomeWord {q w : Nat} (h : jLx X q) (hw : w < 2 ^ 24) (hd : ∀ i, i < jlen w → 1 ≤ jdig w (jlen w) i ∧ jdig w (jlen w) i ≤ 8) : AMet l D g 2 0 0 m_L_becomeWord [.ref q, .long (lN w)] X (fun r X' => r = none ∧ jVal X' q (jMk (fun v => decide (v = jWl w))) ∧ jfr [q, q + 1] X X') := by
  obtain ⟨n, gd, f, h⟩ := h
  have hN : jlen w ≤ 6 := by
    rcases Nat.lt_or_ge 6 (jlen w) with z | z
    · have := (jlen_at 6 w).mpr z
      have h2 : w / 16 ^ 6 = 0 := Nat.div_eq_of_lt (by omega)
      exact absurd h2 this
    · exact z
  have hD : jwd w = if 0 < jlen w ∧ jWd w 0 = 0 then 2 else 1 := by
    unfold jwd
    by_cases h0 : 0 < jlen w
    · have := hd 0 h0
      by_cases h1 : jdig w (jlen w) 0 = 1
      · rw [if_pos ⟨h0, h1⟩, if_pos ⟨h0, by unfold jWd; omega⟩]
      · rw [if_neg (fun z => h1 z.2), if_neg (fun z => h1 (by have := z.2; unfold jWd at this; omega))]
    · rw [if_neg (fun z => h0 z.1), if_neg (fun z => h0 z.1)]
  have hh := jwx_has (N := jlen w) (D := jwd w) (d := jWd w) hD (fun i hi => by have := hd i hi; unfold jWd; omega) (by omega)
  refine (c_L_becomeWord l D g h hw hd).post (fun r X' hq => ?_)
  obtain ⟨h1, rfl⟩ := hq
  refine ⟨h1, jVal.mk (n := jlen w + 2) (gd := 2 ^ jws w (jlen w)) (x := jwx (jlen w) (jwd w) (jWd w)) ⟨_, jLs_r _ _ _ h.lt, fun i hi => jwf_x f hd _ (Nat.le_refl _) i hi, hh.1.2.1, hh.1.1, Nat.lt_of_lt_of_le hh.1.2.2.1 (Nat.pow_le_pow_right (by decide) hh.1.2.1), fun i hi => hh.1.2.2.2.1 i (by omega)⟩ (Or.inl hh), jLs_fr _ _ _ _ _⟩
end JWL
