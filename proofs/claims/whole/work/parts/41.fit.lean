-- the language that a rule's automaton becomes: its least automaton, or all words of its letters
def jkr (nxt : Nat → Nat → Nat) (k : Nat) (w : List Nat) : Nat := w.foldl (fun k c => nxt k (c + 1)) k
def jAll (S m G : Nat) (x : Nat → Nat) : Prop := m = (if S = 255 then 1 else 2) ∧ G = 1 ∧ ∀ s, s < 8 * m → x s = if s < 8 then (if S.testBit s then 0 else 1) else 1
/-- S: the letters of the words of L -/
def jLet (L : List Nat → Bool) (S : Nat) : Prop := S < 256 ∧ ∀ c, c < 8 → (S.testBit c = true ↔ ∃ w, jok w ∧ c ∈ w ∧ L w = true)
def jHas (L : List Nat → Bool) (m G : Nat) (x : Nat → Nat) : Prop := jCan m G x ∧ ∀ w, jok w → G.testBit (jgo x 0 w) = L w
def jFit (L : List Nat → Bool) (m G : Nat) (x : Nat → Nat) : Prop := jHas L m G x ∨ ((¬ ∃ m' G' x', jHas L m' G' x') ∧ ∃ S, jLet L S ∧ jAll S m G x)
theorem jbit8 {S T : Nat} (hS : S < 256) (hT : T < 256) (h : ∀ c, c < 8 → S.testBit c = T.testBit c) : S = T := by
  apply Nat.eq_of_testBit_eq
  intro i
  by_cases hi : i < 8
  · exact h i hi
  · rw [jb_one (n := 8) hS hi, jb_one (n := 8) hT hi]
theorem jAll.can {S m G : Nat} {x : Nat → Nat} (hS : S < 256) (h : jAll S m G x) : jCan m G x := by
  obtain ⟨rfl, rfl, hx⟩ := h
  by_cases h255 : S = 255
  · subst h255
    rw [if_pos rfl] at hx ⊢
    refine ⟨by decide, by decide, by decide, fun s hs => ?_, fun q q' hq hq' _ => by omega, fun j h1 h2 => by omega⟩
    rw [hx s hs, if_pos (by omega), if_pos]
    · decide
    · have : ∀ s, s < 8 → Nat.testBit 255 s = true := by decide
      exact this s (by omega)
  · rw [if_neg h255] at hx ⊢
    have hex : ∃ s, s < 8 ∧ S.testBit s = false := Classical.byContradiction fun z => h255 (jbit8 hS (by decide) (fun c hc => by
      have h1 : ∀ s, s < 8 → Nat.testBit 255 s = true := by decide
      rw [h1 c hc]
      cases hb : S.testBit c with
      | true => rfl
      | false => exact absurd ⟨c, hc, hb⟩ z))
    refine ⟨by decide, by decide, by decide, fun s hs => ?_, fun q q' hq hq' he => ?_, fun j h1 h2 => ?_⟩
    · rw [hx s hs]
      split
      · split <;> decide
      · decide
    · have := he [] (fun _ z => by cases z)
      have this : Nat.testBit 1 q = Nat.testBit 1 q' := this
      rcases (by omega : q = 0 ∨ q = 1) with rfl | rfl <;> rcases (by omega : q' = 0 ∨ q' = 1) with rfl | rfl
      · rfl
      · revert this; decide
      · revert this; decide
      · rfl
    · have hj : j = 1 := by omega
      subst hj
      obtain ⟨s, ⟨s1, s2⟩, s3⟩ := pk_least (fun s => s < 8 ∧ S.testBit s = false) hex
      refine ⟨s, by omega, ?_, fun s' hs' => ?_⟩
      · rw [hx s (by omega), if_pos s1, s2]; rfl
      · rw [hx s' (by omega), if_pos (by omega)]
        have : S.testBit s' = true := by
          cases hb : S.testBit s' with
          | true => rfl
          | false => exact absurd ⟨by omega, hb⟩ (s3 s' hs')
        rw [this]; decide
theorem jFit.can {L : List Nat → Bool} {m G : Nat} {x : Nat → Nat} (h : jFit L m G x) : jCan m G x := by
  rcases h with h | ⟨-, S, hS, h⟩
  · exact h.1
  · exact h.can hS.1
theorem jFit.uniq {L L' : List Nat → Bool} {m G m' G' : Nat} {x x' : Nat → Nat} (h : jFit L m G x) (h' : jFit L' m' G' x') (hL : ∀ w, jok w → L w = L' w) : m = m' ∧ G = G' ∧ ∀ s, s < 8 * m → x s = x' s := by
  have tr : ∀ m G x, jHas L' m G x → jHas L m G x := fun m G x z => ⟨z.1, fun w hw => (z.2 w hw).trans (hL w hw).symm⟩
  have tr' : ∀ m G x, jHas L m G x → jHas L' m G x := fun m G x z => ⟨z.1, fun w hw => (z.2 w hw).trans (hL w hw)⟩
  rcases h with h | ⟨hn, S, hS, hA⟩ <;> rcases h' with h' | ⟨hn', S', hS', hA'⟩
  · exact h.1.uniq h'.1 (fun w hw => (h.2 w hw).trans ((hL w hw).trans (h'.2 w hw).symm))
  · exact absurd ⟨m, G, x, tr' _ _ _ h⟩ hn'
  · exact absurd ⟨m', G', x', tr _ _ _ h'⟩ hn
  · have e : S = S' := jbit8 hS.1 hS'.1 (fun c hc => by
      have h1 := hS.2 c hc
      have h2 := hS'.2 c hc
      have h3 : (∃ w, jok w ∧ c ∈ w ∧ L w = true) ↔ ∃ w, jok w ∧ c ∈ w ∧ L' w = true := by
        constructor
        · rintro ⟨w, w1, w2, w3⟩; exact ⟨w, w1, w2, by rw [← hL w w1]; exact w3⟩
        · rintro ⟨w, w1, w2, w3⟩; exact ⟨w, w1, w2, by rw [hL w w1]; exact w3⟩
      have h4 := h1.trans (h3.trans h2.symm)
      cases ha : S.testBit c <;> cases hb : S'.testBit c
      · rfl
      · exact absurd (h4.mpr hb) (by rw [ha]; simp)
      · exact absurd (h4.mp ha) (by rw [hb]; simp)
      · rfl)
    subst e
    obtain ⟨rfl, rfl, a3⟩ := hA
    obtain ⟨e1, e2, b3⟩ := hA'
    subst e1 e2
    exact ⟨rfl, rfl, fun s hs => (a3 s hs).trans (b3 s hs).symm⟩
theorem jbfs.word {n : Nat} {δ e : Nat → Nat} (h : jbfs n δ e) : ∀ i, i < n → ∃ w, jok w ∧ jgo δ 0 w = i := by
  obtain ⟨h1, h2, h3⟩ := h
  intro i
  induction i using Nat.strongRecOn with
  | ind i ih =>
    intro hi
    by_cases h0 : i = 0
    · subst h0; exact ⟨[], fun _ z => (by cases z), rfl⟩
    · obtain ⟨a, b, c⟩ := h3 i (by omega) hi
      obtain ⟨w, w1, w2⟩ := ih (e i / 8) (by omega) (by omega)
      refine ⟨w ++ [e i % 8], fun x hx => ?_, ?_⟩
      · rcases List.mem_append.mp hx with z | z
        · exact w1 x z
        · rw [List.mem_singleton.mp z]; omega
      · simp only [jgo, List.foldl_append, List.foldl_cons, List.foldl_nil]
        have : w.foldl (fun q c => δ (q * 8 + c)) 0 = e i / 8 := w2
        rw [this, show e i / 8 * 8 + e i % 8 = e i by omega, a]
theorem jgo_app (δ : Nat → Nat) (i : Nat) (v w : List Nat) : jgo δ i (v ++ w) = jgo δ (jgo δ i v) w := by simp [jgo]
theorem jok_app {v w : List Nat} (hv : jok v) (hw : jok w) : jok (v ++ w) := fun x hx => (List.mem_append.mp hx).elim (hv x) (hw x)
/-- more than 24 states that differ: no least automaton of at most 24 -/
theorem jbfs.big {n : Nat} {δ e : Nat → Nat} {a : Nat → Bool} (hb : jbfs n δ e) {r : Nat → Nat} (hr : ∀ k, k < 25 → r k < n) (hd : ∀ k k', k < k' → k' < 25 → ¬ jeqv δ a (r k) (r k')) : ¬ ∃ m G x, jHas (fun w => a (jgo δ 0 w)) m G x := by
  rintro ⟨m, G, x, ⟨c1, c2, c3, c4, c5, c6⟩, hL⟩
  have hw : ∀ k, ∃ w, k < 25 → jok w ∧ jgo δ 0 w = r k := fun k => by
    by_cases hk : k < 25
    · obtain ⟨w, a1, a2⟩ := hb.word (r k) (hr k hk); exact ⟨w, fun _ => ⟨a1, a2⟩⟩
    · exact ⟨[], fun z => absurd z hk⟩
  have := jpig m (fun k => jgo x 0 (Classical.choose (hw k))) 25 (fun k hk => ?_) (fun k k' hk hk' he => ?_)
  · omega
  · exact jgo_lt c4 _ 0 (by omega) (Classical.choose_spec (hw k) hk).1
  · have key : ∀ k k', k < 25 → k' < 25 → jgo x 0 (Classical.choose (hw k)) = jgo x 0 (Classical.choose (hw k')) → jeqv δ a (r k) (r k') := by
      intro k k' hk hk' he v hv
      obtain ⟨u1, u2⟩ := Classical.choose_spec (hw k) hk
      obtain ⟨v1, v2⟩ := Classical.choose_spec (hw k') hk'
      have e1 := hL _ (jok_app u1 hv)
      have e2 := hL _ (jok_app v1 hv)
      simp only [jgo_app] at e1 e2
      rw [u2] at e1
      rw [v2] at e2
      rw [← e1, ← e2, he]
    rcases Nat.lt_trichotomy k k' with z | z | z
    · exact absurd (key k k' hk hk' he) (hd k k' z hk')
    · exact z
    · exact absurd (key k' k hk' hk he.symm) (hd k' k z hk)
/-- the letters on ways to states from which a good one is reached are the letters of the words -/
theorem jbfs.letters {n : Nat} {δ e : Nat → Nat} {a : Nat → Bool} (hb : jbfs n δ e) {c : Nat} (hc : c < 8) : (∃ i, i < n ∧ jcan δ a (δ (i * 8 + c))) ↔ ∃ w, jok w ∧ c ∈ w ∧ a (jgo δ 0 w) = true := by
  constructor
  · rintro ⟨i, hi, v, v1, v2⟩
    obtain ⟨u, u1, u2⟩ := hb.word i hi
    refine ⟨u ++ c :: v, jok_app u1 (jok_cons.mpr ⟨hc, v1⟩), by simp, ?_⟩
    rw [jgo_app, u2]
    exact v2
  · rintro ⟨w, w1, w2, w3⟩
    obtain ⟨u, v, rfl⟩ := List.append_of_mem w2
    have hu : jok u := fun x hx => w1 x (List.mem_append_left _ hx)
    have hv : jok v := fun x hx => w1 x (List.mem_append_right _ (List.mem_cons_of_mem _ hx))
    rw [jgo_app] at w3
    exact ⟨jgo δ 0 u, jgo_lt hb.2.1 u 0 hb.1 hu, v, hv, w3⟩
theorem jX.run {V : Nat → Prop} {fi : Nat} {nxt : Nat → Nat → Nat} {n : Nat} {key δ e : Nat → Nat} {nx ky so en : Nat → Int32} (h : jX V fi nxt (8 * n) n key δ e nx ky so en) : ∀ (w : List Nat) i, i < n → jok w → key (jgo δ i w) = jkr nxt (key i) w := by
  intro w
  induction w with
  | nil => intro i _ _; rfl
  | cons c w ih =>
    intro i hi hw
    obtain ⟨hc, hw'⟩ := jok_cons.mp hw
    obtain ⟨-, a2, a3⟩ := h.2.2.2.2.2.2.2.1 (i * 8 + c) (by omega)
    have := ih (δ (i * 8 + c)) a2 hw'
    show key (jgo δ (δ (i * 8 + c)) w) = jkr nxt (nxt (key i) (c + 1)) w
    rw [this, a3, show (i * 8 + c) / 8 = i by omega, show (i * 8 + c) % 8 = c by omega]
