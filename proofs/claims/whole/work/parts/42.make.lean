-- explore and reduce as values; the rules as such
theorem ab_P_firstKey : ja_abs "TaintScanner$Automaton" 52 jUf "TaintScanner$Pair" "TaintScanner$Rule" m_P_firstKey 0 := ⟨(jm 547 (by decide +kernel) rfl), (jm 549 (by decide +kernel) rfl), (jm 556 (by decide +kernel) rfl), (jm 557 (by decide +kernel) rfl), (jm 76 (by decide +kernel) rfl), (jm 558 (by decide +kernel) rfl), jn 548 (by decide +kernel) rfl, ⟨by decide +kernel, by decide +kernel, by decide +kernel⟩, by decide⟩
theorem ab_P_isGoodKey : ja_abs "TaintScanner$Automaton" 62 jUg "TaintScanner$Pair" "TaintScanner$Rule" m_P_isGoodKey 1 := ⟨(jm 574 (by decide +kernel) rfl), (jm 576 (by decide +kernel) rfl), (jm 588 (by decide +kernel) rfl), (jm 589 (by decide +kernel) rfl), (jm 76 (by decide +kernel) rfl), (jm 590 (by decide +kernel) rfl), jn 575 (by decide +kernel) rfl, ⟨by decide +kernel, by decide +kernel, by decide +kernel⟩, by decide⟩
theorem ab_P_keyAfter : ja_abs "TaintScanner$Automaton" 66 jUk "TaintScanner$Pair" "TaintScanner$Rule" m_P_keyAfter 2 := ⟨(jm 596 (by decide +kernel) rfl), (jm 598 (by decide +kernel) rfl), (jm 612 (by decide +kernel) rfl), (jm 613 (by decide +kernel) rfl), (jm 76 (by decide +kernel) rfl), (jm 614 (by decide +kernel) rfl), jn 597 (by decide +kernel) rfl, ⟨by decide +kernel, by decide +kernel, by decide +kernel⟩, by decide⟩
theorem ab_Q_firstKey : ja_abs "TaintScanner$Automaton" 52 jUf "TaintScanner$Sequence" "TaintScanner$Rule" m_Q_firstKey 0 := ⟨(jm 547 (by decide +kernel) rfl), (jm 549 (by decide +kernel) rfl), (jm 559 (by decide +kernel) rfl), (jm 560 (by decide +kernel) rfl), (jm 77 (by decide +kernel) rfl), (jm 561 (by decide +kernel) rfl), jn 548 (by decide +kernel) rfl, ⟨by decide +kernel, by decide +kernel, by decide +kernel⟩, by decide⟩
theorem ab_Q_isGoodKey : ja_abs "TaintScanner$Automaton" 62 jUg "TaintScanner$Sequence" "TaintScanner$Rule" m_Q_isGoodKey 1 := ⟨(jm 574 (by decide +kernel) rfl), (jm 576 (by decide +kernel) rfl), (jm 592 (by decide +kernel) rfl), (jm 593 (by decide +kernel) rfl), (jm 77 (by decide +kernel) rfl), (jm 594 (by decide +kernel) rfl), jn 575 (by decide +kernel) rfl, ⟨by decide +kernel, by decide +kernel, by decide +kernel⟩, by decide⟩
theorem ab_Q_keyAfter : ja_abs "TaintScanner$Automaton" 66 jUk "TaintScanner$Sequence" "TaintScanner$Rule" m_Q_keyAfter 2 := ⟨(jm 596 (by decide +kernel) rfl), (jm 598 (by decide +kernel) rfl), (jm 616 (by decide +kernel) rfl), (jm 617 (by decide +kernel) rfl), (jm 77 (by decide +kernel) rfl), (jm 618 (by decide +kernel) rfl), jn 597 (by decide +kernel) rfl, ⟨by decide +kernel, by decide +kernel, by decide +kernel⟩, by decide⟩
theorem ab_G_firstKey : ja_abs "TaintScanner$Automaton" 52 jUf "TaintScanner$Guarded" "TaintScanner$Rule" m_G_firstKey 0 := ⟨(jm 547 (by decide +kernel) rfl), (jm 549 (by decide +kernel) rfl), (jm 550 (by decide +kernel) rfl), (jm 551 (by decide +kernel) rfl), (jm 78 (by decide +kernel) rfl), (jm 552 (by decide +kernel) rfl), jn 548 (by decide +kernel) rfl, ⟨by decide +kernel, by decide +kernel, by decide +kernel⟩, by decide⟩
theorem ab_G_isGoodKey : ja_abs "TaintScanner$Automaton" 62 jUg "TaintScanner$Guarded" "TaintScanner$Rule" m_G_isGoodKey 1 := ⟨(jm 574 (by decide +kernel) rfl), (jm 576 (by decide +kernel) rfl), (jm 577 (by decide +kernel) rfl), (jm 578 (by decide +kernel) rfl), (jm 78 (by decide +kernel) rfl), (jm 579 (by decide +kernel) rfl), jn 575 (by decide +kernel) rfl, ⟨by decide +kernel, by decide +kernel, by decide +kernel⟩, by decide⟩
theorem ab_G_keyAfter : ja_abs "TaintScanner$Automaton" 66 jUk "TaintScanner$Guarded" "TaintScanner$Rule" m_G_keyAfter 2 := ⟨(jm 596 (by decide +kernel) rfl), (jm 598 (by decide +kernel) rfl), (jm 599 (by decide +kernel) rfl), (jm 600 (by decide +kernel) rfl), (jm 78 (by decide +kernel) rfl), (jm 601 (by decide +kernel) rfl), jn 597 (by decide +kernel) rfl, ⟨by decide +kernel, by decide +kernel, by decide +kernel⟩, by decide⟩
theorem ab_I_firstKey : ja_abs "TaintScanner$Automaton" 52 jUf "TaintScanner$Image" "TaintScanner$Rule" m_I_firstKey 0 := ⟨(jm 547 (by decide +kernel) rfl), (jm 549 (by decide +kernel) rfl), (jm 553 (by decide +kernel) rfl), (jm 554 (by decide +kernel) rfl), (jm 79 (by decide +kernel) rfl), (jm 555 (by decide +kernel) rfl), jn 548 (by decide +kernel) rfl, ⟨by decide +kernel, by decide +kernel, by decide +kernel⟩, by decide⟩
theorem ab_I_isGoodKey : ja_abs "TaintScanner$Automaton" 62 jUg "TaintScanner$Image" "TaintScanner$Rule" m_I_isGoodKey 1 := ⟨(jm 574 (by decide +kernel) rfl), (jm 576 (by decide +kernel) rfl), (jm 581 (by decide +kernel) rfl), (jm 582 (by decide +kernel) rfl), (jm 79 (by decide +kernel) rfl), (jm 583 (by decide +kernel) rfl), jn 575 (by decide +kernel) rfl, ⟨by decide +kernel, by decide +kernel, by decide +kernel⟩, by decide⟩
theorem ab_I_keyAfter : ja_abs "TaintScanner$Automaton" 66 jUk "TaintScanner$Image" "TaintScanner$Rule" m_I_keyAfter 2 := ⟨(jm 596 (by decide +kernel) rfl), (jm 598 (by decide +kernel) rfl), (jm 608 (by decide +kernel) rfl), (jm 609 (by decide +kernel) rfl), (jm 79 (by decide +kernel) rfl), (jm 610 (by decide +kernel) rfl), jn 597 (by decide +kernel) rfl, ⟨by decide +kernel, by decide +kernel, by decide +kernel⟩, by decide⟩
/-- behind an exploration of a rule -/
def jExp (X : ja_H) (b fi : Nat) (nxt : Nat → Nat → Nat) (acc : Nat → Bool) : Prop := ∃ (n : Nat) (V : Nat → Prop) (key δ e : Nat → Nat) (nx gd ky so so2 en kd fk : Nat → Int32) (lk : Nat → Int64), jBr X b (nI n) nx gd ky so en kd fk lk ∧ (∀ k, k < 1536 → so k = -1) ∧ n ≤ 1536 ∧ jX V fi nxt (8 * n) n key δ e nx ky so2 en ∧ ∀ i, i < n → gd i = nI (acc (key i)).toNat
theorem jBx.fr {X Y : ja_H} {b : Nat} {S : List Nat} (h : jBx X b) (hf : jfr S X Y) (hS : ∀ k ∈ S, k < b ∨ b + 8 < k) : jBx Y b := by
  obtain ⟨ct, nx, gd, ky, so, en, kd, fk, lk, a, c⟩ := h
  exact ⟨ct, nx, gd, ky, so, en, kd, fk, lk, a.fr hf hS, c⟩
theorem jExp.x {X : ja_H} {b fi : Nat} {nxt : Nat → Nat → Nat} {acc : Nat → Bool} (h : jExp X b fi nxt acc) : jBx X b := by
  obtain ⟨n, V, key, δ, e, nx, gd, ky, so, so2, en, kd, fk, lk, a, c, -⟩ := h
  exact ⟨_, _, _, _, _, _, _, _, _, a, c⟩
section JMK
variable (l : Launch) (D : va_G) (g : Nat × Nat) {X : ja_H}
theorem v_B_explore {b rq fi : Nat} {V : Nat → Prop} {nxt : Nat → Nat → Nat} {acc : Nat → Bool} (h : jBx X b) (hR : jRl l D g b X rq V fi nxt acc) : AMet l D g 3 0 0 m_B_explore [.ref b, .ref rq] X (fun r X' => r = none ∧ jExp X' b fi nxt acc ∧ jfr (jBS b) X X') := by
  obtain ⟨ct, nx, gd, ky, so, en, kd, fk, lk, a, c⟩ := h
  refine (c_B_explore l D g a c hR).post (fun r X' hq => ?_)
  obtain ⟨h1, h2, n, key, δ, e, nx', gd', ky', so', so2, en', a1, a2, a3, a4, a5⟩ := hq
  exact ⟨h1, ⟨n, V, key, δ, e, nx', gd', ky', so', so2, en', kd, fk, lk, a1, a2, a3, a4, a5⟩, h2⟩
theorem v_B_reduce {b q fi : Nat} {nxt : Nat → Nat → Nat} {acc : Nat → Bool} (h : jExp X b fi nxt acc) (hq : jLx X q) (hd : q + 1 < b ∨ b + 8 < q) : AMet l D g 2 0 0 m_B_reduce [.ref b, .ref q] X (fun r X' => r = none ∧ jBx X' b ∧ jfr (q :: (q + 1) :: jBS b) X X' ∧ ∃ m G x, jLv X' q m G x ∧ jFit (fun w => acc (jkr nxt fi w)) m G x) := by
  obtain ⟨n, V, key, δ, e, nx, gd, ky, so, so2, en, kd, fk, lk, a1, a2, a3, a4, a5⟩ := h
  obtain ⟨n0, g0, f0, q0⟩ := hq
  have hb := a4.bfs
  have hnx : ∀ s, s < 8 * n → nx s = nI (δ s) := fun s hs => (a4.2.2.2.2.2.2.2.1 s hs).1
  have hacc : ∀ w, jok w → acc (jkr nxt fi w) = (fun i => acc (key i)) (jgo δ 0 w) := by
    intro w hw
    have := a4.run w 0 a4.1 hw
    rw [a4.2.1] at this
    show _ = acc (key (jgo δ 0 w))
    rw [this]
  refine (c_B_reduce l D g (a := fun i => acc (key i)) a1 a2 q0 hd a3 a4.1 hnx hb.2.1 a5).post (fun r X' hq => ?_)
  obtain ⟨h1, h2, h3, h4⟩ := hq
  refine ⟨h1, h2, h3, ?_⟩
  rcases h4 with ⟨m, κ, rep, G, f', hm, hl⟩ | ⟨S, r, hS, hSb, hl, hr, hdif⟩
  · have hx : ∀ k c, k < m → c < 8 → (fun s => κ (δ (rep (s / 8) * 8 + s % 8))) (k * 8 + c) = κ (δ (rep k * 8 + c)) := fun k c hk hc => by
      show κ (δ (rep ((k * 8 + c) / 8) * 8 + (k * 8 + c) % 8)) = _
      rw [show (k * 8 + c) / 8 = k by omega, show (k * 8 + c) % 8 = c by omega]
    obtain ⟨hcan, hlang⟩ := jmin.can hb hm (x := fun s => κ (δ (rep (s / 8) * 8 + s % 8))) hx
    refine ⟨m, G, _, ⟨f', hl, fun i hi => ?_, hcan.2.1, hcan.1, Nat.lt_of_lt_of_le hcan.2.2.1 (Nat.pow_le_pow_right (by decide) hcan.2.1), fun i hi => hcan.2.2.2.1 i (by omega)⟩, Or.inl ⟨hcan, fun w hw => (hlang w hw).trans (hacc w hw).symm⟩⟩
    have := hm.2.2.2.2.2 (i / 8) (i % 8) (by omega) (by omega)
    rw [show i / 8 * 8 + i % 8 = i by omega] at this
    exact this
  · have hA : jAll S (if S = 255 then 1 else 2) 1 (fun s => if s < 8 then (if S.testBit s then 0 else 1) else 1) := ⟨rfl, rfl, fun _ _ => rfl⟩
    have hcan := hA.can hS
    refine ⟨_, 1, _, ⟨_, hl, fun i hi => ?_, hcan.2.1, hcan.1, by decide, fun i hi => hcan.2.2.2.1 i (by omega)⟩, Or.inr ⟨?_, S, ⟨hS, fun c hc => ?_⟩, hA⟩⟩
    · have hi16 : i < 16 := by revert hi; split <;> omega
      simp only [jallk]
      by_cases h8 : i < 8
      · rw [if_pos h8, if_pos h8]
      · rw [if_neg h8, if_neg h8, if_pos (by omega)]
    · rintro ⟨m', G', x', hh⟩
      exact hb.big hr hdif ⟨m', G', x', hh.1, fun w hw => (hh.2 w hw).trans (hacc w hw)⟩
    · rw [hSb c hc, hb.letters hc]
      constructor
      · rintro ⟨w, w1, w2, w3⟩; exact ⟨w, w1, w2, (hacc w w1).trans w3⟩
      · rintro ⟨w, w1, w2, w3⟩; exact ⟨w, w1, w2, (hacc w w1).symm.trans w3⟩
/-- Pair as a rule -/
theorem jRl_P {b p ch na ga nb gb : Nat} {xa xb : Nat → Nat} (hp : jPr X p ch) (hch : ch < 3) (ha : jLv X (p + 1) na ga xa) (hb : jLv X (p + 3) nb gb xb) (hd : p + 4 < b ∨ b + 8 < p) : jRl l D g b X p (fun k => k / 24 < na ∧ k % 24 < nb) 0 (jPn xa xb) (jPg ga gb ch) := by
  obtain ⟨na24, na1, -, hxa⟩ := ha.good
  obtain ⟨nb24, nb1, -, hxb⟩ := hb.good
  refine ⟨3, 0, 1, 1, _, m_P_firstKey, m_P_isGoodKey, m_P_keyAfter, rfl, ab_P_firstKey, ab_P_isGoodKey, ab_P_keyAfter, by decide, by decide, by decide, ⟨by omega, by omega⟩, fun k c hk h1 h8 => ?_, fun k hk => by omega, fun X' hf => ?_⟩
  · have e1 := hxa (k / 24 * 8 + c - 1) (by omega)
    have e2 := hxb (k % 24 * 8 + c - 1) (by omega)
    unfold jPn
    omega
  · have no : ∀ i, i ≤ 4 → p + i ∉ jBS b := fun i hi z => by simp only [List.mem_cons, List.not_mem_nil, or_false] at z; omega
    have hp' : jPr X' p ch := hf.at (no 0 (by decide)) hp
    have ha' := ha.fr hf (no 1 (by decide)) (no 2 (by decide))
    have hb' := hb.fr hf (no 3 (by decide)) (no 4 (by decide))
    exact ⟨⟨_, hp'⟩, c_P_firstKey l D g, fun k hk => c_P_isGoodKey l D g hp' hch ha' hb' hk.1 hk.2, fun k c hk h1 h8 => c_P_keyAfter l D g hp' ha' hb' hk.1 hk.2 h1 h8⟩
/-- Sequence as a rule -/
theorem jRl_Q {b p na ga nb gb : Nat} {xa xb : Nat → Nat} (hp : jQr X p) (ha : jLv X (p + 1) na ga xa) (hb : jLv X (p + 3) nb gb xb) (hnb : nb ≤ 6) (hd : p + 4 < b ∨ b + 8 < p) : jRl l D g b X p (fun k => k / 64 < na) (jQk ga 0 0) (jQn xa xb ga nb) (fun k => decide (gb &&& (k % 64) ≠ 0)) := by
  obtain ⟨na24, na1, -, hxa⟩ := ha.good
  obtain ⟨nb24, nb1, -, hxb⟩ := hb.good
  have hkk : ∀ s S, s < na → S < 64 → jQk ga s S / 64 < na := by
    intro s S hs hS
    have h1 : S ||| 1 < 2 ^ 6 := Nat.or_lt_two_pow hS (by decide)
    unfold jQk
    split <;> omega
  have hkl : ∀ k, k / 64 < na → k < 1536 := fun k hk => by omega
  refine ⟨4, 2, 1, 2, _, m_Q_firstKey, m_Q_isGoodKey, m_Q_keyAfter, rfl, ab_Q_firstKey, ab_Q_isGoodKey, ab_Q_keyAfter, by decide, by decide, by decide, hkk 0 0 (by omega) (by decide), fun k c hk h1 h8 => ?_, hkl, fun X' hf => ?_⟩
  · refine hkk _ _ (hxa _ (by omega)) (Nat.lt_of_lt_of_le (jQs_lt (b := nb) (fun q hq => hxb _ (by omega)) nb (Nat.le_refl _)) ?_)
    exact Nat.pow_le_pow_right (n := 2) (by decide) hnb
  · have no : ∀ i, i ≤ 4 → p + i ∉ jBS b := fun i hi z => by simp only [List.mem_cons, List.not_mem_nil, or_false] at z; omega
    have hp' : jQr X' p := hf.at (no 0 (by decide)) hp
    have ha' := ha.fr hf (no 1 (by decide)) (no 2 (by decide))
    have hb' := hb.fr hf (no 3 (by decide)) (no 4 (by decide))
    exact ⟨⟨_, hp'⟩, c_Q_firstKey l D g hp' ha', fun k hk => c_Q_isGoodKey l D g hp' hb' (by have := hkl k hk; omega), fun k c hk h1 h8 => c_Q_keyAfter l D g hp' ha' hb' hnb hk h1 h8⟩
/-- Guarded as a rule -/
theorem jRl_G {b p n gd : Nat} {x : Nat → Nat} (hp : jGr X p) (ha : jLv X (p + 1) n gd x) (hd : p + 2 < b ∨ b + 8 < p) : jRl l D g b X p (fun k => k ≤ 72 ∧ (k = 72 ∨ k / 3 < n)) 0 (jGn x) (jGg gd) := by
  obtain ⟨n24, n1, -, hx⟩ := ha.good
  refine ⟨5, 0, 1, 1, _, m_G_firstKey, m_G_isGoodKey, m_G_keyAfter, rfl, ab_G_firstKey, ab_G_isGoodKey, ab_G_keyAfter, by decide, by decide, by decide, ⟨by omega, by omega⟩, fun k c hk h1 h8 => ?_, fun k hk => by omega, fun X' hf => ?_⟩
  · by_cases hk72 : k = 72
    · unfold jGn; rw [if_pos hk72]; omega
    · have e1 := hx (k / 3 * 8 + c - 1) (by omega)
      unfold jGn
      rw [if_neg hk72]
      repeat' split
      all_goals omega
  · have no : ∀ i, i ≤ 2 → p + i ∉ jBS b := fun i hi z => by simp only [List.mem_cons, List.not_mem_nil, or_false] at z; omega
    have hp' : jGr X' p := hf.at (no 0 (by decide)) hp
    have ha' := ha.fr hf (no 1 (by decide)) (no 2 (by decide))
    exact ⟨⟨_, hp'⟩, c_G_firstKey l D g, fun k hk => c_G_isGoodKey l D g hp' ha' hk.1 hk.2, fun k c hk h1 h8 => c_G_keyAfter l D g hp' ha' hk.1 hk.2 h1 h8⟩
end JMK
