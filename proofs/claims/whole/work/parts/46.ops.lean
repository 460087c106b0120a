-- the empty language, all words of some letters, widening: as values
def jEmp : jLan := (1, 0, List.replicate 8 0)
def jAllL (S : Nat) : jLan := jLanOf (if S = 255 then 1 else 2) 1 (fun s => if s < 8 then (if S.testBit s then 0 else 1) else 1)
noncomputable def jSet (P : List Nat → Bool) : Nat := @dite Nat (∃ S, jLet P S) (Classical.propDecidable _) (fun h => Classical.choose h) (fun _ => 0)
theorem jLet.uniq {P Q : List Nat → Bool} {S T : Nat} (h : jLet P S) (h' : jLet Q T) (he : ∀ w, jok w → P w = Q w) : S = T := jbit8 h.1 h'.1 (fun c hc => by
  rw [Bool.eq_iff_iff, h.2 c hc, h'.2 c hc]
  constructor
  · rintro ⟨w, w1, w2, w3⟩; exact ⟨w, w1, w2, by rw [← he w w1]; exact w3⟩
  · rintro ⟨w, w1, w2, w3⟩; exact ⟨w, w1, w2, by rw [he w w1]; exact w3⟩)
theorem jSet_of {P : List Nat → Bool} {S : Nat} (h : jLet P S) : jSet P = S := by
  have hex : ∃ S, jLet P S := ⟨S, h⟩
  unfold jSet
  rw [dif_pos hex]
  exact (Classical.choose_spec hex).uniq h (fun _ _ => rfl)
/-- a language widened -/
noncomputable def jWid (L : jLan) : jLan := if L = jEmp then jEmp else jAllL (jSet (jAc L))
theorem jEmp_ok : jOk jEmp := by
  refine ⟨rfl, by decide, by decide, by decide, ?_, fun q q' hq hq' _ => ?_, fun j h1 h2 => ?_⟩
  · show ∀ s, s < 8 → jXf jEmp s < 1
    decide
  · have a : q < 1 := hq
    have b : q' < 1 := hq'
    omega
  · have a : j < 1 := h2
    omega
theorem jEmp_iff {L : jLan} (h : jOk L) : L = jEmp ↔ L.1 = 1 ∧ L.2.1 = 0 := by
  constructor
  · rintro rfl; exact ⟨rfl, rfl⟩
  · rintro ⟨h1, h2⟩
    refine h.ext jEmp_ok (fun w hw => ?_)
    unfold jAc
    rw [h2]
    show Nat.testBit 0 _ = Nat.testBit 0 _
    rw [Nat.zero_testBit, Nat.zero_testBit]
theorem jAllL_ok {S : Nat} (hS : S < 256) : jOk (jAllL S) := by
  have hA : jAll S (if S = 255 then 1 else 2) 1 (fun s => if s < 8 then (if S.testBit s then 0 else 1) else 1) := ⟨rfl, rfl, fun _ _ => rfl⟩
  exact ⟨by simp [jAllL, jLanOf], (hA.can hS).congr (fun s hs => (jXf_of (G := 1) (x := fun s => if s < 8 then (if S.testBit s then 0 else 1) else 1) hs).symm)⟩
theorem jCan.bfs {m G : Nat} {x : Nat → Nat} (h : jCan m G x) : ∃ e, jbfs m x e := by
  obtain ⟨c1, c2, c3, c4, c5, c6⟩ := h
  refine ⟨fun j => @dite Nat (1 ≤ j ∧ j < m) (Classical.propDecidable _) (fun z => Classical.choose (c6 j z.1 z.2)) (fun _ => 0), c1, c4, fun j h1 h2 => ?_⟩
  have hj : 1 ≤ j ∧ j < m := ⟨h1, h2⟩
  simp only [dif_pos hj]
  obtain ⟨a, b, c⟩ := Classical.choose_spec (c6 j h1 h2)
  exact ⟨b, c, a⟩
theorem jdead_go {G : Nat} {x : Nat → Nat} {q : Nat} (h : jdead G x q) : ∀ (w : List Nat), jok w → jgo x q w = q := by
  intro w
  induction w with
  | nil => intro _; rfl
  | cons c w ih =>
    intro hw
    obtain ⟨hc, hw'⟩ := jok_cons.mp hw
    show jgo x (x (q * 8 + c)) w = q
    rw [h.2 c hc]
    exact ih hw'
theorem jCan.dead {m G : Nat} {x : Nat → Nat} (h : jCan m G x) {q : Nat} (hq : q < m) : jdead G x q ↔ ¬ jcan x (fun i => G.testBit i) q := by
  obtain ⟨c1, c2, c3, c4, c5, c6⟩ := h
  constructor
  · rintro hd ⟨w, w1, w2⟩
    have e : jgo x q w = q := jdead_go hd w w1
    have w2 : G.testBit (jgo x q w) = true := w2
    rw [e, hd.1] at w2
    cases w2
  · intro hn
    have none : ∀ w, jok w → G.testBit (jgo x q w) = false := fun w hw => by
      cases hb : G.testBit (jgo x q w) with
      | false => rfl
      | true => exact absurd ⟨w, hw, hb⟩ hn
    refine ⟨none [] (fun _ z => (by cases z)), fun a ha => (c5 q _ hq (c4 _ (by omega)) (fun w hw => ?_)).symm⟩
    rw [none w hw]
    exact (none (a :: w) (jok_cons.mpr ⟨ha, hw⟩)).symm
theorem jCan.lets {n G : Nat} {x : Nat → Nat} {f : Nat → Int32} {v : Int32} (h : jCan n G x) (hf : ∀ i, i < n * 8 → f i = nI (x i)) (hv : (∃ s, s < n ∧ v = nI s ∧ jdead G x s) ∨ (v = -1 ∧ ∀ s, s < n → ¬ jdead G x s)) : jLet (fun w => G.testBit (jgo x 0 w)) (jlets f v (n * 8)) := by
  obtain ⟨e, he⟩ := h.bfs
  refine ⟨jlets_lt f v _, fun c hc => ?_⟩
  rw [jlets_bit f v c hc]
  refine Iff.trans ?_ (he.letters (a := fun i => G.testBit i) hc)
  have h24 := h.2.1
  have key : ∀ j, j < n * 8 → (f j ≠ v ↔ jcan x (fun i => G.testBit i) (x j)) := by
    intro j hj
    have hxj := h.2.2.2.1 j (by omega)
    have hdd := h.dead hxj
    rw [hf j hj]
    rcases hv with ⟨s, hs, rfl, hd⟩ | ⟨rfl, hd⟩
    · constructor
      · intro hne
        exact Classical.byContradiction fun hc => hne (by
          have h1 := hdd.mpr hc
          have : x j = s := h.2.2.2.2.1 _ _ hxj hs (fun w hw => by rw [jdead_go h1 w hw, jdead_go hd w hw, h1.1, hd.1])
          rw [this])
      · intro hc hne
        have : x j = s := (nI_eq (by omega) (by omega)).mp hne
        rw [this] at hdd hc
        exact hdd.mp hd hc
    · constructor
      · intro _
        exact Classical.byContradiction fun hc => hd _ hxj (hdd.mpr hc)
      · intro _ hne
        have := congrArg Int32.toInt hne
        have h2 : (nI (x j)).toInt = (x j : Int) := nI_toInt (by omega)
        rw [h2] at this
        have h3 : (-1 : Int32).toInt = -1 := by decide
        omega
  constructor
  · rintro ⟨j, hj, hjc, hne⟩
    refine ⟨j / 8, by omega, ?_⟩
    rw [show j / 8 * 8 + c = j by omega]
    exact (key j hj).mp hne
  · rintro ⟨i, hi, hc'⟩
    exact ⟨i * 8 + c, by omega, by omega, (key _ (by omega)).mpr hc'⟩
section JOP
variable (l : Launch) (D : va_G) (g : Nat × Nat) {X : ja_H}
theorem w_L_isEmpty {q : Nat} {L : jLan} (h : jVal X q L) : AMet l D g 0 0 0 m_L_isEmpty [.ref q] X (fun r X' => r = some (.int (nI (decide (L = jEmp)).toNat)) ∧ X' = X) := (v_L_isEmpty l D g h.1).post (fun _ _ hq => ⟨by rw [hq.1]; simp only [jEmp_iff h.2], hq.2⟩)
theorem jVal_emp {q : Nat} {n gd : Int32} {f0 : Nat → Int32} (h : jLr X q n gd f0) : jVal (jLs X q (nI 1) (nI 0) (jfl f0 0 8 (nI 0))) q jEmp := by
  refine ⟨⟨_, jLs_r _ _ _ h.lt, fun i hi => ?_, by decide, by decide, by decide, fun i hi => jEmp_ok.2.2.2.2.1 i (by have : i < 1 * 8 := hi; show i < 8 * 1; omega)⟩, jEmp_ok⟩
  have hi : i < 1 * 8 := hi
  have h0 := jEmp_ok.2.2.2.2.1 i (by show i < 8 * 1; omega)
  have h0 : jXf jEmp i < 1 := h0
  show (if 0 ≤ i ∧ i < 8 then nI 0 else f0 i) = nI (jXf jEmp i)
  rw [if_pos (by omega), show jXf jEmp i = 0 by omega]
theorem jVal_all {q S : Nat} {n gd : Int32} {f0 : Nat → Int32} (h : jLr X q n gd f0) (hS : S < 256) : jVal (jLs X q (nI (if S = 255 then 1 else 2)) (nI 1) (jallk S f0 8)) q (jAllL S) := by
  have hok := jAllL_ok hS
  refine ⟨⟨_, jLs_r _ _ _ h.lt, fun i hi => ?_, hok.2.2.1, hok.2.1, (show 1 < 2 ^ 24 by decide), fun i hi => hok.2.2.2.2.1 i (by omega)⟩, hok⟩
  have hi : i < (if S = 255 then 1 else 2) * 8 := hi
  have hi16 : i < 16 := by revert hi; split <;> omega
  rw [show jXf (jAllL S) i = _ from jXf_of (by omega)]
  simp only [jallk]
  by_cases h8 : i < 8
  · rw [if_pos h8, if_pos h8]
  · rw [if_neg h8, if_neg h8, if_pos (by omega)]
theorem w_L_becomeEmpty {q : Nat} (h : jLx X q) : AMet l D g 2 0 0 m_L_becomeEmpty [.ref q] X (fun r X' => r = none ∧ jVal X' q jEmp ∧ jfr [q, q + 1] X X') := by
  obtain ⟨n, gd, f, h⟩ := h
  refine (c_L_becomeEmpty l D g h).post (fun r X' hq => ?_)
  obtain ⟨h1, rfl⟩ := hq
  exact ⟨h1, jVal_emp h, jLs_fr _ _ _ _ _⟩
theorem w_L_becomeAllOf {q S : Nat} (h : jLx X q) (hS : S < 256) : AMet l D g 1 0 0 m_L_becomeAllOf [.ref q, .int (nI S)] X (fun r X' => r = none ∧ jVal X' q (jAllL S) ∧ jfr [q, q + 1] X X') := by
  obtain ⟨n, gd, f, h⟩ := h
  refine (c_L_becomeAllOf l D g h hS).post (fun r X' hq => ?_)
  obtain ⟨h1, rfl⟩ := hq
  exact ⟨h1, jVal_all h hS, jLs_fr _ _ _ _ _⟩
theorem w_L_becomeWide {q p : Nat} {L : jLan} (h0 : jLx X q) (h : jVal X p L) : AMet l D g 3 0 0 m_L_becomeWide [.ref q, .ref p] X (fun r X' => r = none ∧ jVal X' q (jWid L) ∧ jfr [q, q + 1] X X') := by
  obtain ⟨n0, g0, f0, h0⟩ := h0
  obtain ⟨⟨f, a, b, n24, n1, hg, hx⟩, hok⟩ := h
  refine (c_L_becomeWide l D g h0 a n24 (by omega) b hx).post (fun r X' hq => ?_)
  obtain ⟨h1, hq⟩ := hq
  rcases hq with ⟨e1, e2, rfl⟩ | ⟨hne, v, rfl, hv⟩
  · refine ⟨h1, ?_, jLs_fr _ _ _ _ _⟩
    unfold jWid
    rw [if_pos ((jEmp_iff hok).mpr ⟨e1, e2⟩)]
    exact jVal_emp h0
  · refine ⟨h1, ?_, jLs_fr _ _ _ _ _⟩
    unfold jWid
    have hl := hok.2.lets b hv
    rw [if_neg (fun z => hne ((jEmp_iff hok).mp z)), show jSet (jAc L) = jlets f v (L.1 * 8) from jSet_of hl]
    exact jVal_all h0 hl.1
end JOP
