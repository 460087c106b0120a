-- Image as a rule, and its language: the images of the words
def jIm (mk : Nat → Nat) (u : List Nat) : List Nat := (u.filter (fun c => mk (c + 1) != 0)).map (fun c => mk (c + 1) - 1)
theorem jIm_app (mk : Nat → Nat) (u v : List Nat) : jIm mk (u ++ v) = jIm mk u ++ jIm mk v := by simp [jIm]
theorem jIm_nil {mk : Nat → Nat} {u : List Nat} (hu : jok u) : jIm mk u = [] ↔ jSw mk u := by
  unfold jIm
  rw [List.map_eq_nil_iff, List.filter_eq_nil_iff]
  constructor
  · intro h c hc; exact ⟨hu c hc, by simpa using h c hc⟩
  · intro h c hc; simpa using (h c hc).2
theorem jIm_last {mk : Nat → Nat} {w : List Nat} {c : Nat} : ∀ (L : Nat) (u : List Nat), u.length = L → jok u → jIm mk u = w ++ [c] → ∃ u' d v, u = u' ++ d :: v ∧ jIm mk u' = w ∧ mk (d + 1) = c + 1 ∧ jSw mk v := by
  intro L
  induction L with
  | zero =>
    intro u hl hu h
    rw [List.length_eq_zero_iff.mp hl] at h
    exact absurd (congrArg List.length h) (by simp [jIm])
  | succ L ih =>
    intro u hl hu h
    obtain ⟨u0, d, rfl⟩ : ∃ u0 d, u = u0 ++ [d] := ⟨u.dropLast, u.getLast (by intro z; rw [z] at hl; cases hl), (List.dropLast_concat_getLast _).symm⟩
    have hu0 : jok u0 := fun y hy => hu y (by simp [hy])
    rw [jIm_app] at h
    by_cases hd : mk (d + 1) = 0
    · have : jIm mk [d] = [] := by simp [jIm, hd]
      rw [this, List.append_nil] at h
      obtain ⟨u', d', v, rfl, a1, a2, a3⟩ := ih u0 (by simpa using hl) hu0 h
      refine ⟨u', d', v ++ [d], by simp, a1, a2, fun y hy => ?_⟩
      rcases List.mem_append.mp hy with z | z
      · exact a3 y z
      · rw [List.mem_singleton.mp z]; exact ⟨hu d (by simp), hd⟩
    · have : jIm mk [d] = [mk (d + 1) - 1] := by simp [jIm, hd]
      rw [this] at h
      obtain ⟨e1, e2⟩ := List.append_inj' h rfl
      have e3 : mk (d + 1) - 1 = c := by simpa using e2
      exact ⟨u0, d, [], rfl, e1, by omega, fun _ z => (by cases z)⟩
theorem jIq_bit (x sl : Nat → Nat) (S c acc r : Nat) : ∀ m, (jIq x sl S c acc m).testBit r = true ↔ acc.testBit r = true ∨ ∃ q, q < m ∧ S.testBit q = true ∧ (sl (x (q * 8 + c - 1))).testBit r = true := by
  intro m
  induction m with
  | zero => simp [jIq]
  | succ m ih =>
    rw [jIq]
    split
    · rename_i hS
      rw [Nat.testBit_or, Bool.or_eq_true, ih]
      constructor
      · rintro ((h | ⟨q, h1, h2, h3⟩) | h)
        · exact Or.inl h
        · exact Or.inr ⟨q, by omega, h2, h3⟩
        · exact Or.inr ⟨m, by omega, hS, h⟩
      · rintro (h | ⟨q, h1, h2, h3⟩)
        · exact Or.inl (Or.inl h)
        · by_cases hq : q = m
          · subst hq; exact Or.inr h3
          · exact Or.inl (Or.inr ⟨q, by omega, h2, h3⟩)
    · rename_i hS
      rw [ih]
      constructor
      · rintro (h | ⟨q, h1, h2, h3⟩)
        · exact Or.inl h
        · exact Or.inr ⟨q, by omega, h2, h3⟩
      · rintro (h | ⟨q, h1, h2, h3⟩)
        · exact Or.inl h
        · by_cases hq : q = m
          · subst hq; exact absurd h2 hS
          · exact Or.inr ⟨q, by omega, h2, h3⟩
theorem jIn_bit (mk x sl : Nat → Nat) (n S c r : Nat) : ∀ k, (jIn mk x sl n S c k).testBit r = true ↔ ∃ i, 1 ≤ i ∧ i ≤ k ∧ mk i = c ∧ ∃ q, q < n ∧ S.testBit q = true ∧ (sl (x (q * 8 + i - 1))).testBit r = true := by
  intro k
  induction k with
  | zero =>
    rw [jIn, Nat.zero_testBit]
    constructor
    · intro z; cases z
    · rintro ⟨i, h1, h2, -⟩; omega
  | succ k ih =>
    rw [jIn]
    split
    · rename_i hm
      rw [jIq_bit, ih]
      constructor
      · rintro (⟨i, h1, h2, h3⟩ | h)
        · exact ⟨i, h1, by omega, h3⟩
        · exact ⟨k + 1, by omega, by omega, hm, h⟩
      · rintro ⟨i, h1, h2, h3, h4⟩
        by_cases hi : i = k + 1
        · subst hi; exact Or.inr h4
        · exact Or.inl ⟨i, h1, by omega, h3, h4⟩
    · rename_i hm
      rw [ih]
      constructor
      · rintro ⟨i, h1, h2, h3⟩; exact ⟨i, h1, by omega, h3⟩
      · rintro ⟨i, h1, h2, h3, h4⟩
        by_cases hi : i = k + 1
        · subst hi; exact absurd h3 hm
        · exact ⟨i, h1, by omega, h3, h4⟩
theorem jIn_lt {mk x sl : Nat → Nat} {n S c : Nat} (hx : ∀ i, i < n * 8 → x i < n) (hs : ∀ q, q < n → sl q < 2 ^ n) : jIn mk x sl n S c 8 < 2 ^ n := by
  apply Nat.lt_pow_two_of_testBit
  intro r hr
  cases hb : (jIn mk x sl n S c 8).testBit r with
  | false => rfl
  | true =>
    obtain ⟨i, h1, h2, -, q, hq, -, h3⟩ := (jIn_bit mk x sl n S c r 8).mp hb
    have := hs _ (hx (q * 8 + i - 1) (by omega))
    rw [Nat.testBit_lt_two_pow (Nat.lt_of_lt_of_le this (Nat.pow_le_pow_right (by decide) hr))] at h3
    cases h3
theorem jkr_app (nxt : Nat → Nat → Nat) (k : Nat) (v w : List Nat) : jkr nxt k (v ++ w) = jkr nxt (jkr nxt k v) w := by simp [jkr]
theorem jIkr {mk x s : Nat → Nat} {n : Nat} (hn : 1 ≤ n) (hx : ∀ i, i < n * 8 → x i < n) (hso : jSo mk x n s) (hco : ∀ q w, q < n → jSw mk w → (s q).testBit (jgo x q w) = true) : ∀ (L : Nat) (w : List Nat), w.length = L → jok w → ∀ r, (jkr (fun k c => jIn mk x s n k c 8) (s 0) w).testBit r = true ↔ ∃ u, jok u ∧ jIm mk u = w ∧ jgo x 0 u = r := by
  have hx8 : ∀ t, t < 8 * n → x t < n := fun t ht => hx t (by omega)
  have ok_of : ∀ v, jSw mk v → jok v := fun v hv c hc => (hv c hc).1
  intro L
  induction L with
  | zero =>
    intro w hl _ r
    rw [List.length_eq_zero_iff.mp hl]
    show (s 0).testBit r = true ↔ _
    constructor
    · intro h
      obtain ⟨u, u1, u2⟩ := (hso 0 (by omega)).2 r h
      exact ⟨u, ok_of u u1, (jIm_nil (ok_of u u1)).mpr u1, u2⟩
    · rintro ⟨u, u1, u2, rfl⟩
      exact hco 0 u (by omega) ((jIm_nil u1).mp u2)
  | succ L ih =>
    intro w hl hw r
    obtain ⟨w0, c, rfl⟩ : ∃ u0 d, w = u0 ++ [d] := ⟨w.dropLast, w.getLast (by intro z; rw [z] at hl; cases hl), (List.dropLast_concat_getLast _).symm⟩
    have hw0 : jok w0 := fun y hy => hw y (by simp [hy])
    have ih0 := ih w0 (by simpa using hl) hw0
    rw [jkr_app]
    show (jIn mk x s n (jkr (fun k c => jIn mk x s n k c 8) (s 0) w0) (c + 1) 8).testBit r = true ↔ _
    rw [jIn_bit]
    constructor
    · rintro ⟨i, h1, h2, h3, q, hq, h4, h5⟩
      obtain ⟨u, u1, u2, u3⟩ := (ih0 q).mp h4
      obtain ⟨v, v1, v2⟩ := (hso _ (hx (q * 8 + i - 1) (by omega))).2 r h5
      have hi : i - 1 + 1 = i := by omega
      refine ⟨u ++ (i - 1) :: v, jok_app u1 (jok_cons.mpr ⟨by omega, ok_of v v1⟩), ?_, ?_⟩
      · rw [jIm_app, u2, show (i - 1) :: v = [i - 1] ++ v from rfl, jIm_app, (jIm_nil (ok_of v v1)).mpr v1]
        simp [jIm, hi, h3]
      · rw [jgo_app, u3]
        show jgo x (x (q * 8 + (i - 1))) v = r
        rw [show q * 8 + (i - 1) = q * 8 + i - 1 by omega]
        exact v2
    · rintro ⟨u, u1, u2, u3⟩
      obtain ⟨u', d, v, rfl, a1, a2, a3⟩ := jIm_last _ u rfl u1 u2
      have hu' : jok u' := fun y hy => u1 y (by simp [hy])
      have hd : d < 8 := u1 d (by simp)
      have hq := jgo_lt hx8 u' 0 (by omega) hu'
      refine ⟨d + 1, by omega, by omega, a2, jgo x 0 u', hq, (ih0 _).mpr ⟨u', hu', a1, rfl⟩, ?_⟩
      rw [show jgo x 0 u' * 8 + (d + 1) - 1 = jgo x 0 u' * 8 + d by omega]
      have := hco (x (jgo x 0 u' * 8 + d)) v (hx _ (by omega)) a3
      rw [jgo_app] at u3
      rw [← u3]
      exact this
theorem jand_bit {a b : Nat} : a &&& b ≠ 0 ↔ ∃ r, a.testBit r = true ∧ b.testBit r = true := by
  constructor
  · intro h
    exact Classical.byContradiction fun hno => h (Nat.eq_of_testBit_eq fun i => by
      rw [Nat.testBit_and, Nat.zero_testBit]
      cases ha : a.testBit i with
      | false => rfl
      | true =>
        cases hb : b.testBit i with
        | false => rfl
        | true => exact absurd ⟨i, ha, hb⟩ hno)
  · rintro ⟨r, h1, h2⟩ h
    have := congrArg (fun z => Nat.testBit z r) h
    simp only [Nat.testBit_and, h1, h2, Nat.zero_testBit] at this
    cases this
section JI3
variable (l : Launch) (D : va_G) (g : Nat × Nat) {X : ja_H}
/-- Image as a rule: the words that it takes are the images of the words of the language -/
theorem jRl_I {b p n gd f : Nat} {x : Nat → Nat} (h : jIv X p n gd x f) (hd : p + 4 < b ∨ b + 8 < p) : ∃ V fi nxt acc, jRl l D g b X p V fi nxt acc ∧ ∀ w, jok w → (acc (jkr nxt fi w) = true ↔ ∃ u, jok u ∧ jIm (fun i => jimg i f) u = w ∧ gd.testBit (jgo x 0 u) = true) := by
  obtain ⟨hl, hn, mf, sf, s, hI, hm0, hm, hs, hso, hco⟩ := h
  obtain ⟨n24, n1, -, hx⟩ := hl.good
  have hsl : ∀ q, q < n → s q < 2 ^ n := fun q hq => (hso q hq).1
  have h256 : ∀ k, k < 2 ^ n → k < 256 := fun k hk => Nat.lt_of_lt_of_le hk (Nat.pow_le_pow_right (n := 2) (by decide) hn)
  refine ⟨fun k => k < 2 ^ n, s 0, fun k c => jIn (fun i => jimg i f) x s n k c 8, fun k => decide (gd &&& k ≠ 0), ?_, fun w hw => ?_⟩
  · refine ⟨6, 0, 1, 1, _, m_I_firstKey, m_I_isGoodKey, m_I_keyAfter, rfl, ab_I_firstKey, ab_I_isGoodKey, ab_I_keyAfter, by decide, by decide, by decide, hsl 0 (by omega), fun k c hk h1 h8 => jIn_lt hx hsl, fun k hk => by have := h256 k hk; omega, fun X' hf => ?_⟩
    have no : ∀ i, i ≤ 4 → p + i ∉ jBS b := fun i hi z => by simp only [List.mem_cons, List.not_mem_nil, or_false] at z; omega
    have hI' : jIr X' p mf sf := ⟨hf.at (no 0 (by decide)) hI.1, hf.at (no 3 (by decide)) hI.2.1, hf.at (no 4 (by decide)) hI.2.2⟩
    have hl' := hl.fr hf (no 1 (by decide)) (no 2 (by decide))
    refine ⟨⟨_, hI'.1⟩, ?_, fun k hk => c_I_isGoodKey l D g hI' hl', fun k c hk h1 h8 => ?_⟩
    · rw [← hs 0 (by omega)]
      exact c_I_firstKey l D g hI'
    · have e : ∀ k', jIn (fun i => jimg i f) x s n k c k' = jIn (fun i => if i = 0 then 0 else jimg i f) x s n k c k' := fun k' => by
        induction k' with
        | zero => rfl
        | succ k' ih => simp only [jIn, ih, Nat.add_eq_zero_iff, Nat.one_ne_zero, and_false, if_false]
      show AMet l D g 1 0 0 m_I_keyAfter _ X' (fun r Y => r = some (.int (nI (jIn (fun i => jimg i f) x s n k c 8))) ∧ Y = X')
      rw [e 8]
      refine c_I_keyAfter l D g hI' hl' hn (fun i hi => ?_) (fun i hi => ?_) hs (by have := h256 k hk; omega) (by omega)
      · by_cases h0 : i = 0
        · subst h0; rw [if_pos rfl]; exact hm0
        · rw [if_neg h0]; exact hm i (by omega) hi
      · split
        · decide
        · exact jimg_31 hi
  · rw [decide_eq_true_iff, jand_bit]
    constructor
    · rintro ⟨r, h1, h2⟩
      obtain ⟨u, u1, u2, u3⟩ := (jIkr n1 hx hso hco _ w rfl hw r).mp h2
      exact ⟨u, u1, u2, by rw [u3]; exact h1⟩
    · rintro ⟨u, u1, u2, u3⟩
      exact ⟨_, u3, (jIkr n1 hx hso hco _ w rfl hw _).mpr ⟨u, u1, u2, rfl⟩⟩
end JI3
