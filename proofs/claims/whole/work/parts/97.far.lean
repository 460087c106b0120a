-- how far a state is from an end: the shortest way, and the least word
def jEb (p : Nat → Bool) : Nat → Bool
  | 0 => false
  | n + 1 => jEb p n || p n
theorem jEb_iff (p : Nat → Bool) : ∀ n, jEb p n = true ↔ ∃ c, c < n ∧ p c = true
  | 0 => ⟨fun h => (by cases h), fun ⟨c, h, _⟩ => absurd h (by omega)⟩
  | n + 1 => by
    rw [jEb, Bool.or_eq_true, jEb_iff p n]
    constructor
    · rintro (⟨c, h1, h2⟩ | h)
      · exact ⟨c, by omega, h2⟩
      · exact ⟨n, by omega, h⟩
    · rintro ⟨c, h1, h2⟩
      by_cases z : c = n
      · subst z; exact Or.inr h2
      · exact Or.inl ⟨c, by omega, h2⟩
def jFar (nx : Nat → Nat → Nat) (ac : Nat → Bool) : Nat → Nat → Option Nat
  | 0, k => if ac k then some 0 else none
  | d + 1, k => (jFar nx ac d k).or (if jEb (fun c => decide (jFar nx ac d (nx k (c + 1)) = some d)) 8 then some (d + 1) else none)
section JFAR
variable {nx : Nat → Nat → Nat} {ac : Nat → Bool} {N : Nat}
theorem jFar_up {d k m : Nat} (h : jFar nx ac d k = some m) : jFar nx ac (d + 1) k = some m := by rw [jFar, h]; rfl
theorem jFar_ups {d k m : Nat} (h : jFar nx ac d k = some m) : ∀ j, jFar nx ac (d + j) k = some m
  | 0 => h
  | j + 1 => jFar_up (jFar_ups h j)
theorem jFar_no {d k : Nat} (h : jFar nx ac d k = none) : jFar nx ac (d + 1) k = if jEb (fun c => decide (jFar nx ac d (nx k (c + 1)) = some d)) 8 then some (d + 1) else none := by rw [jFar, h]; rfl
theorem jFar_le : ∀ {d k m : Nat}, jFar nx ac d k = some m → m ≤ d
  | 0, k, m, h => by
    unfold jFar at h
    split at h
    · cases h; exact Nat.le_refl _
    · cases h
  | d + 1, k, m, h => by
    cases e : jFar nx ac d k with
    | some m' => rw [jFar_up e] at h; cases h; exact Nat.le_succ_of_le (jFar_le e)
    | none =>
      rw [jFar_no e] at h
      split at h
      · cases h; exact Nat.le_refl _
      · cases h
theorem jFar_at {d k : Nat} : jFar nx ac (d + 1) k = some d ↔ jFar nx ac d k = some d := by
  refine ⟨fun h => ?_, jFar_up⟩
  cases e : jFar nx ac d k with
  | some m => rw [jFar_up e] at h; exact h
  | none =>
    rw [jFar_no e] at h
    split at h
    · have := Option.some.inj h; omega
    · cases h
theorem jFar_w : ∀ {d k m : Nat}, jFar nx ac d k = some m → ∃ w, jok w ∧ w.length = m ∧ ac (jkr nx k w) = true
  | 0, k, m, h => by
    unfold jFar at h
    split at h
    · rename_i ha; cases h; exact ⟨[], fun c hc => (by cases hc), rfl, ha⟩
    · cases h
  | d + 1, k, m, h => by
    cases e : jFar nx ac d k with
    | some m' => rw [jFar_up e] at h; cases h; exact jFar_w e
    | none =>
      rw [jFar_no e] at h
      split at h
      · rename_i ha
        cases h
        obtain ⟨c, h1, h2⟩ := (jEb_iff _ _).mp ha
        obtain ⟨w, w1, w2, w3⟩ := jFar_w (of_decide_eq_true h2)
        refine ⟨c :: w, fun x hx => ?_, by simp [w2], w3⟩
        rcases List.mem_cons.mp hx with z | z
        · rw [z]; exact h1
        · exact w1 x z
      · cases h
theorem jFar_s : ∀ (d : Nat) {k : Nat} (w : List Nat), jok w → w.length ≤ d → ac (jkr nx k w) = true → ∃ m, m ≤ w.length ∧ jFar nx ac d k = some m
  | 0, k, w, h1, h2, h3 => by
    have : w = [] := List.length_eq_zero_iff.mp (by omega)
    subst this
    have h3 : ac k = true := h3
    exact ⟨0, Nat.le_refl _, by rw [jFar, if_pos h3]⟩
  | d + 1, k, w, h1, h2, h3 => by
    by_cases hl : w.length ≤ d
    · obtain ⟨m, a, b⟩ := jFar_s d w h1 hl h3
      exact ⟨m, a, jFar_up b⟩
    · cases e : jFar nx ac d k with
      | some m => exact ⟨m, by have := jFar_le e; omega, jFar_up e⟩
      | none =>
        cases w with
        | nil => simp at hl
        | cons c w =>
          have hl' : w.length = d := by simp at hl h2; omega
          have hc : c < 8 := h1 c (List.mem_cons_self ..)
          have hw : jok w := fun x hx => h1 x (List.mem_cons_of_mem _ hx)
          have h3 : ac (jkr nx (nx k (c + 1)) w) = true := h3
          obtain ⟨m, a, b⟩ := jFar_s d w hw (by omega) h3
          have hm : m = d := by
            refine Classical.byContradiction fun hne => ?_
            obtain ⟨v, v1, v2, v3⟩ := jFar_w b
            obtain ⟨m', -, z⟩ := jFar_s d (k := k) (c :: v) (fun x hx => by
              rcases List.mem_cons.mp hx with y | y
              · rw [y]; exact hc
              · exact v1 x y) (by simp; omega) v3
            rw [e] at z; cases z
          subst hm
          refine ⟨m + 1, by simp; omega, ?_⟩
          rw [jFar_no e, if_pos ((jEb_iff _ _).mpr ⟨c, hc, decide_eq_true b⟩)]
theorem jFar_all (hnx : ∀ k c, k < N → c < 8 → nx k (c + 1) < N) : ∀ {d : Nat}, (∃ k, k < N ∧ jFar nx ac d k = some d) → ∀ e, e ≤ d → ∃ k, k < N ∧ jFar nx ac d k = some e
  | 0, ⟨k, h1, h2⟩, e, he => ⟨k, h1, by rw [show e = 0 by omega]; exact h2⟩
  | d + 1, ⟨k, h1, h2⟩, e, he => by
    by_cases z : e = d + 1
    · subst z; exact ⟨k, h1, h2⟩
    · cases y : jFar nx ac d k with
      | some m => rw [jFar_up y] at h2; have := jFar_le y; have := Option.some.inj h2; omega
      | none =>
        rw [jFar_no y] at h2
        split at h2
        · rename_i ha
          obtain ⟨c, c1, c2⟩ := (jEb_iff _ _).mp ha
          obtain ⟨k', a, b⟩ := jFar_all hnx ⟨_, hnx k c h1 c1, of_decide_eq_true c2⟩ e (by omega)
          exact ⟨k', a, jFar_up b⟩
        · cases h2
theorem jFar_96 (hnx : ∀ k c, k < N → c < 8 → nx k (c + 1) < N) (hN : N ≤ 96) {k : Nat} (hk : k < N) : jFar nx ac 96 k ≠ some 96 := fun h => by
  have hall := jFar_all hnx ⟨k, hk, h⟩
  have hch : ∀ e : Nat, ∃ k, e ≤ 96 → k < N ∧ jFar nx ac 96 k = some e := fun e => by
    by_cases he : e ≤ 96
    · obtain ⟨k, a⟩ := hall e he; exact ⟨k, fun _ => a⟩
    · exact ⟨0, fun z => absurd z he⟩
  have := jpig N (fun e => Classical.choose (hch e)) 97 (fun i hi => (Classical.choose_spec (hch i) (by omega)).1) (fun i j hi hj he => by
    have a := (Classical.choose_spec (hch i) (by omega)).2
    have b := (Classical.choose_spec (hch j) (by omega)).2
    have he : Classical.choose (hch i) = Classical.choose (hch j) := he
    rw [he, b] at a
    exact (Option.some.inj a).symm)
  omega
theorem jFar_st (hnx : ∀ k c, k < N → c < 8 → nx k (c + 1) < N) (hN : N ≤ 96) : ∀ (j : Nat) {k : Nat}, k < N → jFar nx ac (95 + j) k = jFar nx ac 95 k
  | 0, k, _ => rfl
  | j + 1, k, hk => by
    cases e : jFar nx ac 95 k with
    | some m => exact jFar_ups e (j + 1)
    | none =>
      have ih := jFar_st hnx hN j hk
      rw [e] at ih
      show jFar nx ac (95 + j + 1) k = none
      rw [jFar_no ih]
      split
      · rename_i ha
        exfalso
        obtain ⟨c, c1, c2⟩ := (jEb_iff _ _).mp ha
        have c2 := of_decide_eq_true c2
        rw [jFar_st hnx hN j (hnx k c hk c1)] at c2
        have := jFar_le c2
        have hj : j = 0 := by omega
        subst hj
        refine jFar_96 hnx hN hk (ac := ac) ?_
        rw [show (96 : Nat) = 95 + 1 from rfl, jFar_no e, if_pos ((jEb_iff _ _).mpr ⟨c, c1, decide_eq_true c2⟩)]
      · rfl
/-- the shortest length of a way to an end -/
theorem jFar_min (hnx : ∀ k c, k < N → c < 8 → nx k (c + 1) < N) (hN : N ≤ 96) {k : Nat} (hk : k < N) {w : List Nat} (h1 : jok w) (h3 : ac (jkr nx k w) = true) : ∃ m, m ≤ w.length ∧ jFar nx ac 95 k = some m := by
  obtain ⟨m, a, b⟩ := jFar_s (95 + w.length) w h1 (by omega) h3
  rw [jFar_st hnx hN _ hk] at b
  exact ⟨m, a, b⟩
/-- a next letter: the least one that comes nearer -/
theorem jFar_nx (hnx : ∀ k c, k < N → c < 8 → nx k (c + 1) < N) (hN : N ≤ 96) {k m : Nat} (hk : k < N) (h : jFar nx ac 95 k = some (m + 1)) : ∃ c, c < 8 ∧ jFar nx ac 95 (nx k (c + 1)) = some m ∧ ∀ c', c' < c → jFar nx ac 95 (nx k (c' + 1)) ≠ some m := by
  have hex : ∃ c, c < 8 ∧ jFar nx ac 95 (nx k (c + 1)) = some m := by
    obtain ⟨w, w1, w2, w3⟩ := jFar_w h
    cases w with
    | nil => cases w2
    | cons c w =>
      have hc : c < 8 := w1 c (List.mem_cons_self ..)
      have hw : jok w := fun x hx => w1 x (List.mem_cons_of_mem _ hx)
      obtain ⟨m', a, b⟩ := jFar_min hnx hN (hnx k c hk hc) hw w3
      have hl : w.length = m := by simpa using w2
      refine ⟨c, hc, ?_⟩
      have : m' = m := by
        obtain ⟨v, v1, v2, v3⟩ := jFar_w b
        obtain ⟨m2, a2, b2⟩ := jFar_min hnx hN hk (w := c :: v) (fun x hx => by
              rcases List.mem_cons.mp hx with y | y
              · rw [y]; exact hc
              · exact v1 x y) v3
        rw [h] at b2
        have := Option.some.inj b2
        simp at a2
        omega
      rw [b, this]
  obtain ⟨c, hc⟩ := hex
  induction c using Nat.strongRecOn with
  | ind c ih =>
    by_cases z : ∃ c', c' < c ∧ jFar nx ac 95 (nx k (c' + 1)) = some m
    · obtain ⟨c', z1, z2⟩ := z
      exact ih c' z1 ⟨by omega, z2⟩
    · exact ⟨c, hc.1, hc.2, fun c' h1 h2 => z ⟨c', h1, h2⟩⟩
/-- the least word: always the least letter that comes nearer -/
def jGw (nx : Nat → Nat → Nat) (ac : Nat → Bool) : Nat → List Nat → Prop
  | k, [] => jFar nx ac 95 k = some 0
  | k, c :: w => jFar nx ac 95 k = some (w.length + 1) ∧ c < 8 ∧ (∀ c', c' < c → jFar nx ac 95 (nx k (c' + 1)) ≠ some w.length) ∧ jGw nx ac (nx k (c + 1)) w
theorem jGw_ex (hnx : ∀ k c, k < N → c < 8 → nx k (c + 1) < N) (hN : N ≤ 96) : ∀ {m k : Nat}, k < N → jFar nx ac 95 k = some m → ∃ w, jGw nx ac k w ∧ w.length = m
  | 0, k, _, h => ⟨[], h, rfl⟩
  | m + 1, k, hk, h => by
    obtain ⟨c, c1, c2, c3⟩ := jFar_nx hnx hN hk h
    obtain ⟨w, w1, w2⟩ := jGw_ex hnx hN (hnx k c hk c1) c2
    exact ⟨c :: w, ⟨by rw [w2]; exact h, c1, by rw [w2]; exact c3, w1⟩, by simp [w2]⟩
theorem jGw_lst (hnx : ∀ k c, k < N → c < 8 → nx k (c + 1) < N) (hN : N ≤ 96) : ∀ {k : Nat} (w : List Nat), k < N → jGw nx ac k w → jLst (fun v => ac (jkr nx k v)) w
  | k, [], hk, h => by
    obtain ⟨v, v1, v2, v3⟩ := jFar_w h
    have : v = [] := List.length_eq_zero_iff.mp v2
    subst this
    refine ⟨v1, v3, fun u hu hu2 => ?_⟩
    cases u with
    | nil => exact Or.inl rfl
    | cons x u => exact Or.inr (Or.inl (by simp))
  | k, c :: w, hk, ⟨h1, h2, h3, h4⟩ => by
    obtain ⟨q1, q2, q3⟩ := jGw_lst hnx hN w (hnx k c hk h2) h4
    refine ⟨fun x hx => ?_, q2, fun u hu hu2 => ?_⟩
    · rcases List.mem_cons.mp hx with y | y
      · rw [y]; exact h2
      · exact q1 x y
    · have hu2 : ac (jkr nx k u) = true := hu2
      obtain ⟨m, a, b⟩ := jFar_min hnx hN hk hu hu2
      rw [h1] at b
      have b := Option.some.inj b
      by_cases hl : w.length + 1 < u.length
      · exact Or.inr (Or.inl (by simpa using hl))
      · cases u with
        | nil => simp at a; omega
        | cons x u =>
          have hul : w.length = u.length := by simp at hl a; omega
          have hx : x < 8 := hu x (List.mem_cons_self ..)
          have hu' : jok u := fun y hy => hu y (List.mem_cons_of_mem _ hy)
          have hu3 : ac (jkr nx (nx k (x + 1)) u) = true := hu2
          by_cases hxc : x = c
          · subst hxc
            rcases q3 u hu' hu3 with z | z
            · exact Or.inl (by rw [z])
            · refine Or.inr (Or.inr ⟨by simp [hul], Or.inr ⟨rfl, ?_⟩⟩)
              rcases z with z | z
              · omega
              · exact z.2
          · refine Or.inr (Or.inr ⟨by simp [hul], Or.inl ?_⟩)
            refine Classical.byContradiction fun hlt => ?_
            obtain ⟨m', a', b'⟩ := jFar_min hnx hN (hnx k x hk hx) hu' hu3
            have hm' : m' = w.length := by
              obtain ⟨v, v1, v2, v3⟩ := jFar_w b'
              obtain ⟨m2, a2, b2⟩ := jFar_min hnx hN hk (w := x :: v) (fun y hy => by
                rcases List.mem_cons.mp hy with z | z
                · rw [z]; exact hx
                · exact v1 y z) v3
              rw [h1] at b2
              have := Option.some.inj b2
              simp at a2
              omega
            exact h3 x (by omega) (by rw [b', hm'])
end JFAR
/-- a language beside the reading of an attack -/
def jdx (L : jLan) (k x : Nat) : Nat := 4 * jXf L (k / 4 * 8 + x - 1) + jread (k % 4) x
def jda (L : jLan) (k : Nat) : Bool := L.2.1.testBit (k / 4) && decide (0 < k % 4)
theorem jdx_lt {L : jLan} (h : jOk L) {k c : Nat} (hk : k < 4 * L.1) (hc : c < 8) : jdx L k (c + 1) < 4 * L.1 := by
  unfold jdx
  have h1 : jXf L (k / 4 * 8 + (c + 1) - 1) < L.1 := h.2.2.2.2.1 _ (by omega)
  have h2 := jread_lt (k % 4) (c + 1)
  omega
theorem jdx_run {L : jLan} : ∀ (w : List Nat), jok w → ∀ q p, p < 4 → jkr (jdx L) (4 * q + p) w = 4 * jgo (jXf L) q w + jgo jatx p w ∧ jgo jatx p w < 4
  | [], _, q, p, hp => ⟨rfl, hp⟩
  | c :: w, hw, q, p, hp => by
    have hc : c < 8 := hw c (List.mem_cons_self ..)
    have e : jdx L (4 * q + p) (c + 1) = 4 * jXf L (q * 8 + c) + jatx (p * 8 + c) := by
      unfold jdx jatx
      rw [show (4 * q + p) / 4 = q by omega, show (4 * q + p) % 4 = p by omega, show (p * 8 + c) / 8 = p by omega, show (p * 8 + c) % 8 = c by omega]; rfl
    have := jdx_run (L := L) w (fun x hx => hw x (List.mem_cons_of_mem _ hx)) (jXf L (q * 8 + c)) (jatx (p * 8 + c)) (jread_lt _ _)
    rw [← e] at this
    exact this
theorem jda_att {L : jLan} {w : List Nat} (hw : jok w) : jda L (jkr (jdx L) 0 w) = jAtt L w := by
  obtain ⟨h1, h2⟩ := jdx_run (L := L) w hw 0 0 (by decide)
  rw [show 4 * 0 + 0 = 0 from rfl] at h1
  unfold jda jAtt jAc
  rw [h1]
  generalize jgo (jXf L) 0 w = q
  generalize jgo jatx 0 w = p at h2
  rw [show (4 * q + p) / 4 = q by omega, show (4 * q + p) % 4 = p by omega]
  have : ∀ p, p < 4 → decide (0 < p) = Nat.testBit 14 p := by decide
  rw [this p h2]
def jFz (L : jLan) (k : Nat) : Option Nat := jFar (jdx L) (jda L) 95 k
theorem jWt_gw {L : jLan} (h : jOk L) {w : List Nat} (hg : jGw (jdx L) (jda L) 0 w) : jWt L = some w := by
  have hn := h.2.1
  exact jWt_some ((jGw_lst (N := 4 * L.1) (fun k c => jdx_lt h) (by have := h.2.2.1; omega) w (by omega) hg).congr (fun v hv => jda_att hv))
theorem jWt_far {L : jLan} (h : jOk L) : (jWt L).map List.length = jFz L 0 := by
  have hn := h.2.1
  cases e : jFz L 0 with
  | some m =>
    obtain ⟨w, w1, w2⟩ := jGw_ex (N := 4 * L.1) (fun k c => jdx_lt h) (by have := h.2.2.1; omega) (by omega) e
    rw [jWt_gw h w1, ← w2]; rfl
  | none =>
    rw [jWt_none (fun w hw => ?_)]
    · rfl
    · cases ha : jAtt L w with
      | false => rfl
      | true =>
        rw [← jda_att hw] at ha
        obtain ⟨m, -, b⟩ := jFar_min (N := 4 * L.1) (fun k c => jdx_lt h) (by have := h.2.2.1; omega) (by omega) hw ha
        have e : jFar (jdx L) (jda L) 95 0 = none := e
        rw [e] at b; cases b
