-- languages as values: states, good ones, ways; the one that a set of words becomes
abbrev jLan := Nat × Nat × List Nat
def jXf (L : jLan) (i : Nat) : Nat := (L.2.2[i]?).getD 0
def jAc (L : jLan) (w : List Nat) : Bool := L.2.1.testBit (jgo (jXf L) 0 w)
def jOk (L : jLan) : Prop := L.2.2.length = 8 * L.1 ∧ jCan L.1 L.2.1 (jXf L)
def jFitL (P : List Nat → Bool) (L : jLan) : Prop := L.2.2.length = 8 * L.1 ∧ jFit P L.1 L.2.1 (jXf L)
def jVal (X : ja_H) (q : Nat) (L : jLan) : Prop := jLv X q L.1 L.2.1 (jXf L) ∧ jOk L
noncomputable def jMk (P : List Nat → Bool) : jLan := @dite jLan (∃ L, jFitL P L) (Classical.propDecidable _) (fun h => Classical.choose h) (fun _ => (1, 0, List.replicate 8 0))
def jLanOf (m G : Nat) (x : Nat → Nat) : jLan := (m, G, (List.range (8 * m)).map x)
theorem jXf_of {m G : Nat} {x : Nat → Nat} {i : Nat} (hi : i < 8 * m) : jXf (jLanOf m G x) i = x i := by
  simp [jXf, jLanOf, hi]
theorem jgo_congr {m : Nat} {x y : Nat → Nat} (hx : ∀ s, s < 8 * m → x s < m) (h : ∀ s, s < 8 * m → x s = y s) : ∀ (w : List Nat) (q : Nat), q < m → jok w → jgo x q w = jgo y q w := by
  intro w
  induction w with
  | nil => intro q _ _; rfl
  | cons c w ih =>
    intro q hq hw
    obtain ⟨hc, hw'⟩ := jok_cons.mp hw
    show jgo x (x (q * 8 + c)) w = jgo y (y (q * 8 + c)) w
    rw [← h (q * 8 + c) (by omega)]
    exact ih _ (hx _ (by omega)) hw'
theorem jCan.congr {m G : Nat} {x y : Nat → Nat} (hc : jCan m G x) (h : ∀ s, s < 8 * m → x s = y s) : jCan m G y := by
  obtain ⟨c1, c2, c3, c4, c5, c6⟩ := hc
  refine ⟨c1, c2, c3, fun s hs => by rw [← h s hs]; exact c4 s hs, fun q q' hq hq' he => c5 q q' hq hq' (fun w hw => ?_), fun j h1 h2 => ?_⟩
  · rw [jgo_congr c4 h w q hq hw, jgo_congr c4 h w q' hq' hw]; exact he w hw
  · obtain ⟨s, s1, s2, s3⟩ := c6 j h1 h2
    exact ⟨s, s1, by rw [← h s (by omega)]; exact s2, fun s' hs' => by rw [← h s' (by omega)]; exact s3 s' hs'⟩
theorem jHas.congr {P : List Nat → Bool} {m G : Nat} {x y : Nat → Nat} (hf : jHas P m G x) (h : ∀ s, s < 8 * m → x s = y s) : jHas P m G y := by
  obtain ⟨hc, hw⟩ := hf
  refine ⟨hc.congr h, fun w hok => ?_⟩
  rw [← jgo_congr hc.2.2.2.1 h w 0 (by have := hc.1; omega) hok]
  exact hw w hok
theorem jFit.congr {P : List Nat → Bool} {m G : Nat} {x y : Nat → Nat} (hf : jFit P m G x) (h : ∀ s, s < 8 * m → x s = y s) : jFit P m G y := by
  rcases hf with hf | ⟨hn, S, hS, h1, h2, h3⟩
  · exact Or.inl (hf.congr h)
  · exact Or.inr ⟨hn, S, hS, h1, h2, fun s hs => by rw [← h s hs]; exact h3 s hs⟩
theorem jFitL.uniq {P Q : List Nat → Bool} {L L' : jLan} (h : jFitL P L) (h' : jFitL Q L') (hL : ∀ w, jok w → P w = Q w) : L = L' := by
  obtain ⟨n, G, t⟩ := L
  obtain ⟨n', G', t'⟩ := L'
  obtain ⟨e1, e2, e3⟩ := h.2.uniq h'.2 hL
  have l1 : t.length = 8 * n := h.1
  have l2 : t'.length = 8 * n' := h'.1
  have e1 : n = n' := e1
  have e2 : G = G' := e2
  subst e1 e2
  have : t = t' := List.ext_getElem (by omega) (fun i h1 h2 => by
    have := e3 i (by show i < 8 * n; omega)
    simp only [jXf, List.getElem?_eq_getElem h1, List.getElem?_eq_getElem h2, Option.getD_some] at this
    exact this)
  rw [this]
theorem jMk_of {P : List Nat → Bool} {L : jLan} (h : jFitL P L) : jMk P = L := by
  have hex : ∃ L, jFitL P L := ⟨L, h⟩
  unfold jMk
  rw [dif_pos hex]
  exact (Classical.choose_spec hex).uniq h (fun _ _ => rfl)
theorem jMk_congr {P Q : List Nat → Bool} (h : ∀ w, jok w → P w = Q w) : jMk P = jMk Q := by
  have tr : ∀ (P Q : List Nat → Bool), (∀ w, jok w → P w = Q w) → ∀ m G x, jHas P m G x → jHas Q m G x := fun P Q h m G x z => ⟨z.1, fun w hw => (z.2 w hw).trans (h w hw)⟩
  have key : ∀ (P Q : List Nat → Bool), (∀ w, jok w → P w = Q w) → ∀ L, jFitL P L → jFitL Q L := by
    intro P Q h L hL
    refine ⟨hL.1, ?_⟩
    rcases hL.2 with hf | ⟨hn, S, ⟨hS, hc⟩, hA⟩
    · exact Or.inl (tr P Q h _ _ _ hf)
    · refine Or.inr ⟨fun ⟨m, G, x, z⟩ => hn ⟨m, G, x, tr Q P (fun w hw => (h w hw).symm) _ _ _ z⟩, S, ⟨hS, fun c hc8 => ?_⟩, hA⟩
      rw [hc c hc8]
      constructor
      · rintro ⟨w, w1, w2, w3⟩; exact ⟨w, w1, w2, by rw [← h w w1]; exact w3⟩
      · rintro ⟨w, w1, w2, w3⟩; exact ⟨w, w1, w2, by rw [h w w1]; exact w3⟩
  by_cases hex : ∃ L, jFitL P L
  · obtain ⟨L, hL⟩ := hex
    rw [jMk_of hL, jMk_of (key P Q h L hL)]
  · have hex' : ¬ ∃ L, jFitL Q L := fun ⟨L, hL⟩ => hex ⟨L, key Q P (fun w hw => (h w hw).symm) L hL⟩
    unfold jMk
    rw [dif_neg hex, dif_neg hex']
theorem jFit.of {P : List Nat → Bool} {m G : Nat} {x : Nat → Nat} (h : jFit P m G x) : jFitL P (jLanOf m G x) := ⟨by simp [jLanOf], h.congr (fun s hs => (jXf_of hs).symm)⟩
theorem jFitL.ok {P : List Nat → Bool} {L : jLan} (h : jFitL P L) : jOk L := ⟨h.1, h.2.can⟩
/-- a language is what its own words become -/
theorem jMk_ac {L : jLan} (h : jOk L) : jMk (jAc L) = L := jMk_of ⟨h.1, Or.inl ⟨h.2, fun _ _ => rfl⟩⟩
theorem jOk.ext {L L' : jLan} (h : jOk L) (h' : jOk L') (he : ∀ w, jok w → jAc L w = jAc L' w) : L = L' := by rw [← jMk_ac h, ← jMk_ac h', jMk_congr he]
theorem jLv.congr {X : ja_H} {q n gd : Nat} {x y : Nat → Nat} (h : jLv X q n gd x) (he : ∀ s, s < 8 * n → x s = y s) : jLv X q n gd y := by
  obtain ⟨f, a, b, c, d, e, hx⟩ := h
  exact ⟨f, a, fun i hi => by rw [b i hi, he i (by omega)], c, d, e, fun i hi => by rw [← he i (by omega)]; exact hx i hi⟩
theorem jVal.mk {X : ja_H} {q n gd : Nat} {x : Nat → Nat} {P : List Nat → Bool} (h : jLv X q n gd x) (hf : jFit P n gd x) : jVal X q (jMk P) := by
  rw [jMk_of hf.of]
  exact ⟨h.congr (fun s hs => (jXf_of hs).symm), hf.of.ok⟩
theorem jVal.fr {S : List Nat} {X Y : ja_H} {q : Nat} {L : jLan} (h : jVal X q L) (hf : jfr S X Y) (h1 : q ∉ S) (h2 : q + 1 ∉ S) : jVal Y q L := ⟨h.1.fr hf h1 h2, h.2⟩
theorem jVal.x {X : ja_H} {q : Nat} {L : jLan} (h : jVal X q L) : jLx X q := h.1.x
section JLN
variable (l : Launch) (D : va_G) (g : Nat × Nat) {X : ja_H}
theorem w_B_reduce {b q fi : Nat} {nxt : Nat → Nat → Nat} {acc : Nat → Bool} (h : jExp X b fi nxt acc) (hq : jLx X q) (hd : q + 1 < b ∨ b + 8 < q) : AMet l D g 2 0 0 m_B_reduce [.ref b, .ref q] X (fun r X' => r = none ∧ jBx X' b ∧ jfr (q :: (q + 1) :: jBS b) X X' ∧ jVal X' q (jMk (fun w => acc (jkr nxt fi w)))) := (v_B_reduce l D g h hq hd).post (fun _ _ hq => by
  obtain ⟨h1, h2, h3, m, G, x, h4, h5⟩ := hq
  exact ⟨h1, h2, h3, jVal.mk h4 h5⟩)
theorem w_L_copy {q p : Nat} {L : jLan} (h0 : jLx X q) (h : jVal X p L) (hqp : q ≠ p) : AMet l D g 1 0 0 m_L_copy [.ref q, .ref p] X (fun r X' => r = none ∧ jVal X' q L ∧ jfr [q, q + 1] X X') := (v_L_copy l D g h0 h.1 hqp).post (fun _ _ hq => ⟨hq.1, ⟨hq.2.1, h.2⟩, hq.2.2⟩)
theorem w_L_isSame {q p : Nat} {L M : jLan} (h : jVal X q L) (hp : jVal X p M) : AMet l D g 0 0 0 m_L_isSame [.ref q, .ref p] X (fun r X' => r = some (.int (nI (decide (L = M)).toNat)) ∧ X' = X) := by
  obtain ⟨⟨f, a, b, n24, n1, hg, hx⟩, hok⟩ := h
  obtain ⟨⟨f2, a2, b2, n242, n12, hg2, hx2⟩, hok2⟩ := hp
  refine (c_L_isSame l D g a a2 n24).post (fun r X' hq => ⟨?_, hq.2⟩)
  obtain ⟨⟨bb, rfl, hb⟩, -⟩ := hq
  have : bb = decide (L = M) := by
    rw [Bool.eq_iff_iff, hb, decide_eq_true_iff]
    constructor
    · rintro ⟨e1, e2, e3⟩
      have e1 : L.1 = M.1 := (nI_eq (by omega) (by omega)).mp e1
      have e2 : L.2.1 = M.2.1 := (nI_eq (by omega) (by omega)).mp e2
      refine hok.ext hok2 (fun w hw => ?_)
      unfold jAc
      rw [e2, jgo_congr (m := L.1) hok.2.2.2.2.1 (fun s hs => ?_) w 0 (by omega) hw]
      have := e3 s (by omega)
      rw [b s (by omega), b2 s (by omega)] at this
      have l1 := hx s (by omega)
      have l2 := hx2 s (by omega)
      exact (nI_eq (by omega) (by omega)).mp this
    · rintro rfl
      exact ⟨rfl, rfl, fun i hi => by rw [b i hi, b2 i hi]⟩
  rw [this]
end JLN
