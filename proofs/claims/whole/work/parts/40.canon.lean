-- least automata, numbered breadth first: one for each language
def jCan (m G : Nat) (x : Nat → Nat) : Prop := 1 ≤ m ∧ m ≤ 24 ∧ G < 2 ^ m ∧ (∀ s, s < 8 * m → x s < m) ∧ (∀ q q', q < m → q' < m → (∀ w, jok w → G.testBit (jgo x q w) = G.testBit (jgo x q' w)) → q = q') ∧ (∀ j, 1 ≤ j → j < m → ∃ s, s < 8 * j ∧ x s = j ∧ ∀ s', s' < s → x s' < j)
theorem jok_cons {c : Nat} {w : List Nat} : jok (c :: w) ↔ c < 8 ∧ jok w := by
  constructor
  · intro h; exact ⟨h c List.mem_cons_self, fun x hx => h x (List.mem_cons_of_mem _ hx)⟩
  · rintro ⟨h1, h2⟩ x hx
    rcases List.mem_cons.mp hx with rfl | z
    · exact h1
    · exact h2 x z
theorem jCan.one {m m' G G' : Nat} {x x' : Nat → Nat} (h : jCan m G x) (h' : jCan m' G' x') (hL : ∀ w, jok w → G.testBit (jgo x 0 w) = G'.testBit (jgo x' 0 w)) : ∀ j, j < m → j < m' ∧ ∀ w, jok w → G.testBit (jgo x j w) = G'.testBit (jgo x' j w) := by
  obtain ⟨a1, a2, a3, a4, a5, a6⟩ := h
  obtain ⟨b1, b2, b3, b4, b5, b6⟩ := h'
  intro j
  induction j using Nat.strongRecOn with
  | ind j ih =>
    intro hj
    by_cases h0 : j = 0
    · subst h0; exact ⟨b1, hL⟩
    · obtain ⟨s, s1, s2, s3⟩ := a6 j (by omega) hj
      obtain ⟨q1, q2⟩ := ih (s / 8) (by omega) (by omega)
      have step : ∀ t, t < 8 * j → t / 8 < m' → (∀ w, jok w → G.testBit (jgo x (t / 8) w) = G'.testBit (jgo x' (t / 8) w)) → ∀ w, jok w → G.testBit (jgo x (x t) w) = G'.testBit (jgo x' (x' t) w) := by
        intro t ht htm he w hw
        have := he (t % 8 :: w) (jok_cons.mpr ⟨by omega, hw⟩)
        simp only [jgo, List.foldl_cons] at this
        rw [show t / 8 * 8 + t % 8 = t by omega] at this
        exact this
      have e1 := step s s1 q1 q2
      rw [s2] at e1
      have hjm' : x' s < m' := b4 s (by omega)
      have hkey : x' s = j := by
        rcases Nat.lt_trichotomy (x' s) j with z | z | z
        · have e2 := (ih (x' s) z (by omega)).2
          have := a5 j (x' s) hj (by omega) (fun w hw => (e1 w hw).trans (e2 w hw).symm)
          omega
        · exact z
        · obtain ⟨t, t1, t2, t3⟩ := b6 j (by omega) (by omega)
          have hts : t < s := by
            rcases Nat.lt_trichotomy t s with y | y | y
            · exact y
            · subst y; omega
            · have := t3 s y; omega
          have hxt := s3 t hts
          obtain ⟨p1, p2⟩ := ih (t / 8) (by omega) (by omega)
          have e3 := step t (by omega) p1 p2
          rw [t2] at e3
          obtain ⟨r1, r2⟩ := ih (x t) hxt (by omega)
          have := b5 j (x t) (by omega) r1 (fun w hw => (e3 w hw).symm.trans (r2 w hw))
          omega
      rw [hkey] at e1 hjm'
      exact ⟨hjm', e1⟩
theorem jCan.uniq {m m' G G' : Nat} {x x' : Nat → Nat} (h : jCan m G x) (h' : jCan m' G' x') (hL : ∀ w, jok w → G.testBit (jgo x 0 w) = G'.testBit (jgo x' 0 w)) : m = m' ∧ G = G' ∧ ∀ s, s < 8 * m → x s = x' s := by
  have k1 := h.one h' hL
  have k2 := h'.one h (fun w hw => (hL w hw).symm)
  have hm : m = m' := by
    have := h.1
    have := h'.1
    have e1 := (k1 (m - 1) (by omega)).1
    have e2 := (k2 (m' - 1) (by omega)).1
    omega
  subst hm
  refine ⟨rfl, ?_, fun s hs => ?_⟩
  · apply Nat.eq_of_testBit_eq
    intro i
    by_cases hi : i < m
    · exact (k1 i hi).2 [] (fun _ z => by cases z)
    · rw [jb_one h.2.2.1 hi, jb_one h'.2.2.1 hi]
  · have hxs := h.2.2.2.1 s hs
    refine h'.2.2.2.2.1 (x s) (x' s) hxs (h'.2.2.2.1 s hs) (fun w hw => ?_)
    have e1 := (k1 (s / 8) (by omega)).2 (s % 8 :: w) (jok_cons.mpr ⟨by omega, hw⟩)
    simp only [jgo, List.foldl_cons] at e1
    rw [show s / 8 * 8 + s % 8 = s by omega] at e1
    have e2 := (k1 (x s) hxs).2 w hw
    exact e2.symm.trans e1
/-- what the ways of n states say of breadth-first numbering -/
def jbfs (n : Nat) (δ e : Nat → Nat) : Prop := 1 ≤ n ∧ (∀ s, s < 8 * n → δ s < n) ∧ ∀ j, 1 ≤ j → j < n → δ (e j) = j ∧ (∀ s, s < e j → δ s < j) ∧ e j < 8 * j
theorem jX.bfs {V : Nat → Prop} {fi : Nat} {nxt : Nat → Nat → Nat} {n : Nat} {key δ e : Nat → Nat} {nx ky so en : Nat → Int32} (h : jX V fi nxt (8 * n) n key δ e nx ky so en) : jbfs n δ e := ⟨h.1, fun s hs => (h.2.2.2.2.2.2.2.1 s hs).2.1, fun j h1 h2 => by obtain ⟨-, -, a3, a4, a5⟩ := h.2.2.2.2.2.2.2.2.1 j h1 h2; exact ⟨a3, a4, a5⟩⟩
theorem jmin.go {δ : Nat → Nat} {a : Nat → Bool} {n m : Nat} {κ rep : Nat → Nat} {G : Nat} {f : Nat → Int32} {e : Nat → Nat} (hb : jbfs n δ e) (h : jmin δ a n m κ rep G f) {x : Nat → Nat} (hx : ∀ k c, k < m → c < 8 → x (k * 8 + c) = κ (δ (rep k * 8 + c))) : ∀ (w : List Nat) i, i < n → jok w → jgo x (κ i) w = κ (jgo δ i w) := by
  obtain ⟨h1, ⟨k1, k2, k3⟩, h3, h4, h5, h6⟩ := h
  intro w
  induction w with
  | nil => intro i _ _; rfl
  | cons c w ih =>
    intro i hi hw
    obtain ⟨hc, hw'⟩ := jok_cons.mp hw
    have hκ := (k1 i hi).1
    have hrep := k2 _ hκ
    have hlt := hb.2.1 (i * 8 + c) (by omega)
    show jgo x (x (κ i * 8 + c)) w = κ (jgo δ (δ (i * 8 + c)) w)
    rw [hx _ _ hκ hc]
    have heq : jeqv δ a (rep (κ i)) i := (h3 _ _ hrep.1 hi).mp hrep.2
    rw [(h3 _ _ (hb.2.1 _ (by omega)) hlt).mpr (heq.step hc)]
    exact ih _ hlt hw'
theorem jmin.can {δ : Nat → Nat} {a : Nat → Bool} {n m : Nat} {κ rep : Nat → Nat} {G : Nat} {f : Nat → Int32} {e : Nat → Nat} (hb : jbfs n δ e) (h : jmin δ a n m κ rep G f) {x : Nat → Nat} (hx : ∀ k c, k < m → c < 8 → x (k * 8 + c) = κ (δ (rep k * 8 + c))) : jCan m G x ∧ ∀ w, jok w → G.testBit (jgo x 0 w) = a (jgo δ 0 w) := by
  have hgo := jmin.go hb h hx
  obtain ⟨h1, ⟨k1, k2, k3⟩, h3, h4, h5, h6⟩ := h
  obtain ⟨b1, b2, b3⟩ := hb
  have mono : ∀ k k', k < m → k' < m → rep k < rep k' → k < k' := by
    intro k k' hk hk' hlt
    rcases Nat.lt_trichotomy k k' with z | z | z
    · exact z
    · subst z; omega
    · have := k3 k' k z hk; omega
  have hκ0 : κ 0 = 0 := by
    obtain ⟨c1, c2⟩ := k1 0 (by omega)
    rcases Nat.eq_zero_or_pos (κ 0) with z | z
    · exact z
    · have := k3 0 (κ 0) z c1; omega
  have acc : ∀ i, i < n → G.testBit (κ i) = a i := by
    intro i hi
    obtain ⟨c1, c2⟩ := k1 i hi
    rw [h5 _ c1]
    exact ((h3 _ _ (k2 _ c1).1 hi).mp (k2 _ c1).2) [] (fun _ z => by cases z)
  have lang : ∀ i w, i < n → jok w → G.testBit (jgo x (κ i) w) = a (jgo δ i w) := by
    intro i w hi hw
    rw [hgo w i hi hw]
    exact acc _ (jgo_lt b2 w i hi hw)
  refine ⟨⟨?_, h1, h4, fun s hs => ?_, fun q q' hq hq' he => ?_, fun j hj1 hj => ?_⟩, fun w hw => ?_⟩
  · have := (k1 0 (by omega)).1; omega
  · have := hx (s / 8) (s % 8) (by omega) (by omega)
    rw [show s / 8 * 8 + s % 8 = s by omega] at this
    rw [this]
    exact (k1 _ (b2 _ (by have := (k2 (s / 8) (by omega)).1; omega))).1
  · have r1 := k2 q hq
    have r2 := k2 q' hq'
    have : jeqv δ a (rep q) (rep q') := fun w hw => by
      have e1 := lang (rep q) w r1.1 hw
      have e2 := lang (rep q') w r2.1 hw
      rw [r1.2] at e1
      rw [r2.2] at e2
      rw [← e1, ← e2]
      exact he w hw
    have := (h3 _ _ r1.1 r2.1).mpr this
    rw [r1.2, r2.2] at this
    exact this
  · obtain ⟨r1, r2⟩ := k2 j hj
    have hrj : 1 ≤ rep j := by have := k3 0 j (by omega) hj; omega
    obtain ⟨d1, d2, d3⟩ := b3 (rep j) hrj r1
    have hp : e (rep j) / 8 < rep j := by omega
    have hpn : e (rep j) / 8 < n := by omega
    obtain ⟨p1, p2⟩ := k1 _ hpn
    have hfirst : rep (κ (e (rep j) / 8)) = e (rep j) / 8 := by
      refine Classical.byContradiction fun z => ?_
      have hlt : rep (κ (e (rep j) / 8)) < e (rep j) / 8 := by omega
      have hδ1 := d2 (rep (κ (e (rep j) / 8)) * 8 + e (rep j) % 8) (by omega)
      have heq : jeqv δ a (rep (κ (e (rep j) / 8))) (e (rep j) / 8) := (h3 _ _ (k2 _ p1).1 hpn).mp (k2 _ p1).2
      have hk := (h3 _ _ (by omega) (b2 _ (by omega))).mpr (heq.step (c := e (rep j) % 8) (by omega))
      rw [show e (rep j) / 8 * 8 + e (rep j) % 8 = e (rep j) by omega, d1, r2] at hk
      have := (k1 _ (show δ (rep (κ (e (rep j) / 8)) * 8 + e (rep j) % 8) < n by omega)).2
      rw [hk] at this
      omega
    have hkp : κ (e (rep j) / 8) < j := mono _ _ p1 hj (by omega)
    refine ⟨κ (e (rep j) / 8) * 8 + e (rep j) % 8, by omega, ?_, fun s' hs' => ?_⟩
    · rw [hx _ _ p1 (by omega), hfirst, show e (rep j) / 8 * 8 + e (rep j) % 8 = e (rep j) by omega, d1, r2]
    · have hk' : s' / 8 < m := by omega
      have hxs := hx (s' / 8) (s' % 8) hk' (by omega)
      rw [show s' / 8 * 8 + s' % 8 = s' by omega] at hxs
      rw [hxs]
      have hf' : rep (s' / 8) * 8 + s' % 8 < e (rep j) := by
        rcases Nat.lt_or_ge (s' / 8) (κ (e (rep j) / 8)) with z | z
        · have := k3 _ _ z p1; omega
        · have e1 : s' / 8 = κ (e (rep j) / 8) := by omega
          rw [e1, hfirst]; omega
      have hδ1 := d2 _ hf'
      obtain ⟨u1, u2⟩ := k1 (δ (rep (s' / 8) * 8 + s' % 8)) (by omega)
      exact mono _ _ u1 hj (by omega)
  · have := lang 0 w (by omega) hw
    rw [hκ0] at this
    exact this
