-- Pair, Sequence, Guarded
def jPr (X : ja_H) (p ch : Nat) : Prop := X[p]? = some (.inr (3, [.ref (p + 1), .ref (p + 3), .int (nI ch)]))
def jQr (X : ja_H) (p : Nat) : Prop := X[p]? = some (.inr (4, [.ref (p + 1), .ref (p + 3)]))
def jGr (X : ja_H) (p : Nat) : Prop := X[p]? = some (.inr (5, [.ref (p + 1)]))
def jPn (xa xb : Nat → Nat) (k c : Nat) : Nat := xa (k / 24 * 8 + c - 1) * 24 + xb (k % 24 * 8 + c - 1)
def jPg (ga gb ch k : Nat) : Bool := if ch = 0 then ga.testBit (k / 24) || gb.testBit (k % 24) else if ch = 1 then ga.testBit (k / 24) && gb.testBit (k % 24) else ga.testBit (k / 24) && !gb.testBit (k % 24)
/-- the states to which the first m states of a set lead -/
def jQs (xb : Nat → Nat) (S c : Nat) : Nat → Nat
  | 0 => 0
  | q + 1 => if S.testBit q then jQs xb S c q ||| 2 ^ xb (q * 8 + c - 1) else jQs xb S c q
def jQk (ga p S : Nat) : Nat := p * 64 + (if ga.testBit p then S ||| 1 else S)
def jQn (xa xb : Nat → Nat) (ga nb k c : Nat) : Nat := jQk ga (xa (k / 64 * 8 + c - 1)) (jQs xb k c nb)
def jGn (x : Nat → Nat) (k c : Nat) : Nat := if k = 72 then 72 else if k % 3 = 0 ∧ jsym c = 4 then k / 3 * 3 + (if jtnt c then 2 else 1) else if (if k % 3 = 0 then ¬ (jsym c = 3 ∨ jsym c = 4) else (jsym c = 3 ∨ jsym c = 4) ∧ k % 3 = (if jtnt c then 2 else 1)) then x (k / 3 * 8 + c - 1) * 3 else 72
def jGg (gd k : Nat) : Bool := decide (k ≠ 72) && decide (k % 3 = 0) && gd.testBit (k / 3)
theorem jQs_lt {xb : Nat → Nat} {S c nb b : Nat} (h : ∀ q, q < nb → xb (q * 8 + c - 1) < b) : ∀ m, m ≤ nb → jQs xb S c m < 2 ^ b := by
  intro m
  induction m with
  | zero => intro _; exact Nat.two_pow_pos b
  | succ m ih =>
    intro hm
    rw [jQs]
    split
    · exact Nat.or_lt_two_pow (ih (by omega)) (Nat.pow_lt_pow_right (by decide) (h m (by omega)))
    · exact ih (by omega)
section JR
variable (l : Launch) (D : va_G) (g : Nat × Nat) {X : ja_H}
set_option maxHeartbeats 4000000 in
set_option maxRecDepth 100000 in
theorem c_P_firstKey {p : Nat} : AMet l D g 0 0 0 m_P_firstKey [.ref p] X (fun r X' => r = some (.int (nI 0)) ∧ X' = X) := by
  refine ja_metK (by decide) rfl (Nat.le_of_ble_eq_true rfl) fun K hB hF => ?_
  refine kw_iconst hB P_firstKey_0 (v := nI 0) (by decide) ?_
  refine kw_iret hF rfl P_firstKey_1 ?_ (by first | (simp [jLs_len]; done) | (simp [*]; done))
  exact ⟨rfl, rfl⟩
set_option maxHeartbeats 4000000 in
set_option maxRecDepth 100000 in
theorem c_G_firstKey {p : Nat} : AMet l D g 0 0 0 m_G_firstKey [.ref p] X (fun r X' => r = some (.int (nI 0)) ∧ X' = X) := by
  refine ja_metK (by decide) rfl (Nat.le_of_ble_eq_true rfl) fun K hB hF => ?_
  refine kw_iconst hB G_firstKey_0 (v := nI 0) (by decide) ?_
  refine kw_iret hF rfl G_firstKey_1 ?_ (by first | (simp [jLs_len]; done) | (simp [*]; done))
  exact ⟨rfl, rfl⟩
set_option maxHeartbeats 4000000 in
set_option maxRecDepth 100000 in
theorem c_P_keyAfter {p ch na ga nb gb k c : Nat} {xa xb : Nat → Nat} (hp : jPr X p ch) (ha : jLv X (p + 1) na ga xa) (hb : jLv X (p + 3) nb gb xb) (hk1 : k / 24 < na) (hk2 : k % 24 < nb) (h1 : 1 ≤ c) (h8 : c ≤ 8) : AMet l D g 1 0 0 m_P_keyAfter [.ref p, .int (nI k), .int (nI c)] X (fun r X' => r = some (.int (nI (jPn xa xb k c))) ∧ X' = X) := by
  obtain ⟨na24, -⟩ := ha.good
  have ra := ha.choose_spec.1.1
  have rb := hb.choose_spec.1.1
  have hk : k < 2 ^ 31 := by omega
  refine ja_metK (by decide) rfl (Nat.le_of_ble_eq_true rfl) fun K hB hF => ?_
  refine kw_aload_n hB P_keyAfter_0 rfl ?_
  refine kw_getf hB P_keyAfter_1 f_P_10 hp rfl ?_
  refine kw_iload_n hB P_keyAfter_4 rfl ?_
  refine kw_bipush hB P_keyAfter_5 (v := nI 24) (by decide) ?_
  refine kn_idiv hB P_keyAfter_7 (by omega) (by decide) (by decide) ?_
  refine kw_iload_n hB P_keyAfter_8 rfl ?_
  refine kw_callV hB P_keyAfter_9 s_P_27 im_L_after se_L_after ra rfl rfl (As := [.int (nI (k / 24)), .int (nI c)]) (v_L_after l D g ha hk1 h1 h8) rfl (by decide) (Nat.le_of_ble_eq_true rfl) (by omega) (by omega) (fun r X1 hq hl => ?_)
  obtain ⟨rfl, hxeq⟩ := hq
  obtain rfl := hxeq.symm
  refine kw_istore_n hB P_keyAfter_12 rfl (by decide) rfl ?_
  refine kw_aload_n hB P_keyAfter_13 rfl ?_
  refine kw_getf hB P_keyAfter_14 f_P_16 hp rfl ?_
  refine kw_iload_n hB P_keyAfter_17 rfl ?_
  refine kw_bipush hB P_keyAfter_18 (v := nI 24) (by decide) ?_
  refine kn_irem hB P_keyAfter_20 (by omega) (by decide) (by decide) ?_
  refine kw_iload_n hB P_keyAfter_21 rfl ?_
  refine kw_callV hB P_keyAfter_22 s_P_27 im_L_after se_L_after rb rfl rfl (As := [.int (nI (k % 24)), .int (nI c)]) (v_L_after l D g hb hk2 h1 h8) rfl (by decide) (Nat.le_of_ble_eq_true rfl) (by omega) (by omega) (fun r X1 hq hl => ?_)
  obtain ⟨rfl, hxeq⟩ := hq
  obtain rfl := hxeq.symm
  refine kw_istore hB P_keyAfter_25 (by decide) rfl ?_
  refine kw_iload_n hB P_keyAfter_27 rfl ?_
  refine kw_bipush hB P_keyAfter_28 (v := nI 24) (by decide) ?_
  refine kn_imul hB P_keyAfter_30 ?_
  refine kw_iload hB P_keyAfter_31 rfl ?_
  refine kn_iadd hB P_keyAfter_33 ?_
  refine kw_iret hF rfl P_keyAfter_34 ?_ (by first | (simp [jLs_len]; done) | (simp [*]; done))
  exact ⟨rfl, rfl⟩
set_option maxHeartbeats 4000000 in
set_option maxRecDepth 100000 in
theorem c_P_isGoodKey {p ch na ga nb gb k : Nat} {xa xb : Nat → Nat} (hp : jPr X p ch) (hch : ch < 3) (ha : jLv X (p + 1) na ga xa) (hb : jLv X (p + 3) nb gb xb) (hk1 : k / 24 < na) (hk2 : k % 24 < nb) : AMet l D g 1 0 0 m_P_isGoodKey [.ref p, .int (nI k)] X (fun r X' => r = some (.int (nI (jPg ga gb ch k).toNat)) ∧ X' = X) := by
  obtain ⟨na24, -⟩ := ha.good
  have ra := ha.choose_spec.1.1
  have rb := hb.choose_spec.1.1
  have hk : k < 2 ^ 31 := by omega
  refine ja_metK (by decide) rfl (Nat.le_of_ble_eq_true rfl) fun K hB hF => ?_
  refine kw_aload_n hB P_isGoodKey_0 rfl ?_
  refine kw_getf hB P_isGoodKey_1 f_P_10 hp rfl ?_
  refine kw_iload_n hB P_isGoodKey_4 rfl ?_
  refine kw_bipush hB P_isGoodKey_5 (v := nI 24) (by decide) ?_
  refine kn_idiv hB P_isGoodKey_7 (by omega) (by decide) (by decide) ?_
  refine kw_callV hB P_isGoodKey_8 s_P_31 im_L_isGood se_L_isGood ra rfl rfl (As := [.int (nI (k / 24))]) (v_L_isGood l D g ha hk1) rfl (by decide) (Nat.le_of_ble_eq_true rfl) (by omega) (by omega) (fun r X1 hq hl => ?_)
  obtain ⟨rfl, hxeq⟩ := hq
  obtain rfl := hxeq.symm
  refine kw_istore_n hB P_isGoodKey_11 rfl (by decide) rfl ?_
  refine kw_aload_n hB P_isGoodKey_12 rfl ?_
  refine kw_getf hB P_isGoodKey_13 f_P_16 hp rfl ?_
  refine kw_iload_n hB P_isGoodKey_16 rfl ?_
  refine kw_bipush hB P_isGoodKey_17 (v := nI 24) (by decide) ?_
  refine kn_irem hB P_isGoodKey_19 (by omega) (by decide) (by decide) ?_
  refine kw_callV hB P_isGoodKey_20 s_P_31 im_L_isGood se_L_isGood rb rfl rfl (As := [.int (nI (k % 24))]) (v_L_isGood l D g hb hk2) rfl (by decide) (Nat.le_of_ble_eq_true rfl) (by omega) (by omega) (fun r X1 hq hl => ?_)
  obtain ⟨rfl, hxeq⟩ := hq
  obtain rfl := hxeq.symm
  refine kw_istore_n hB P_isGoodKey_23 rfl (by decide) rfl ?_
  refine kw_aload_n hB P_isGoodKey_24 rfl ?_
  refine kw_getf hB P_isGoodKey_25 f_P_23 hp rfl ?_
  have hci : (nI ch).toInt = (ch : Int) := nI_toInt (by omega)
  generalize hbA : ga.testBit (k / 24) = bA
  generalize hbB : gb.testBit (k % 24) = bB
  have lA : bA.toNat < 2 ^ 31 := by cases bA <;> decide
  have lB : bB.toNat < 2 ^ 31 := by cases bB <;> decide
  rcases (by omega : ch = 0 ∨ ch = 1 ∨ ch = 2) with rfl | rfl | rfl
  · refine kw_lookup hB P_isGoodKey_28 (off := 28) (tgt := 56) (by decide) (by rw [hci]; decide) rfl ?_
    have yes : (bA || bB) = true → K 64 [.ref p, .int (nI k), .int (nI bA.toNat), .int (nI bB.toNat)] [] X 0 0 := by
      intro h
      refine kw_iconst hB P_isGoodKey_64 (v := nI 1) (by decide) ?_
      refine kw_goto hB P_isGoodKey_65 ?_
      refine kw_zret hF rfl (by first | rfl | decide) P_isGoodKey_69 ?_ (by first | (simp [jLs_len]; done) | (simp [*]; done))
      exact ⟨by rw [show jPg ga gb 0 k = true by simp only [jPg, if_pos]; rw [hbA, hbB]; exact h]; rfl, rfl⟩
    refine kw_iload_n hB P_isGoodKey_56 rfl ?_
    refine kn_if_ne hB P_isGoodKey_57 lA (fun h => yes (by rw [jb_t h]; rfl)) (fun h => ?_)
    refine kw_iload_n hB P_isGoodKey_60 rfl ?_
    refine kn_if_eq hB P_isGoodKey_61 lB (fun h2 => ?_) (fun h2 => yes (by rw [jb_t h2]; simp))
    refine kw_iconst hB P_isGoodKey_68 (v := nI 0) (by decide) ?_
    refine kw_zret hF rfl (by first | rfl | decide) P_isGoodKey_69 ?_ (by first | (simp [jLs_len]; done) | (simp [*]; done))
    exact ⟨by rw [show jPg ga gb 0 k = false by simp only [jPg, if_pos]; rw [hbA, hbB, jb_f h, jb_f h2]; rfl]; rfl, rfl⟩
  · refine kw_lookup hB P_isGoodKey_28 (off := 42) (tgt := 70) (by decide) (by rw [hci]; decide) rfl ?_
    have no : (bA && bB) = false → K 82 [.ref p, .int (nI k), .int (nI bA.toNat), .int (nI bB.toNat)] [] X 0 0 := by
      intro h
      refine kw_iconst hB P_isGoodKey_82 (v := nI 0) (by decide) ?_
      refine kw_zret hF rfl (by first | rfl | decide) P_isGoodKey_83 ?_ (by first | (simp [jLs_len]; done) | (simp [*]; done))
      exact ⟨by rw [show jPg ga gb 1 k = false by simp only [jPg]; rw [hbA, hbB, if_neg (by decide), if_pos (by decide)]; exact h]; rfl, rfl⟩
    refine kw_iload_n hB P_isGoodKey_70 rfl ?_
    refine kn_if_eq hB P_isGoodKey_71 lA (fun h => no (by rw [jb_f h]; rfl)) (fun h => ?_)
    refine kw_iload_n hB P_isGoodKey_74 rfl ?_
    refine kn_if_eq hB P_isGoodKey_75 lB (fun h2 => no (by rw [jb_f h2]; simp)) (fun h2 => ?_)
    refine kw_iconst hB P_isGoodKey_78 (v := nI 1) (by decide) ?_
    refine kw_goto hB P_isGoodKey_79 ?_
    refine kw_zret hF rfl (by first | rfl | decide) P_isGoodKey_83 ?_ (by first | (simp [jLs_len]; done) | (simp [*]; done))
    exact ⟨by rw [show jPg ga gb 1 k = true by simp only [jPg]; rw [hbA, hbB, jb_t h, jb_t h2]; rfl]; rfl, rfl⟩
  · refine kw_lookup hB P_isGoodKey_28 (off := 56) (tgt := 84) (by decide) (by rw [hci]; decide) rfl ?_
    have no : (bA && !bB) = false → K 96 [.ref p, .int (nI k), .int (nI bA.toNat), .int (nI bB.toNat)] [] X 0 0 := by
      intro h
      refine kw_iconst hB P_isGoodKey_96 (v := nI 0) (by decide) ?_
      refine kw_zret hF rfl (by first | rfl | decide) P_isGoodKey_97 ?_ (by first | (simp [jLs_len]; done) | (simp [*]; done))
      exact ⟨by rw [show jPg ga gb 2 k = false by simp only [jPg]; rw [hbA, hbB, if_neg (by decide), if_neg (by decide)]; exact h]; rfl, rfl⟩
    refine kw_iload_n hB P_isGoodKey_84 rfl ?_
    refine kn_if_eq hB P_isGoodKey_85 lA (fun h => no (by rw [jb_f h]; rfl)) (fun h => ?_)
    refine kw_iload_n hB P_isGoodKey_88 rfl ?_
    refine kn_if_ne hB P_isGoodKey_89 lB (fun h2 => no (by rw [jb_t h2]; simp)) (fun h2 => ?_)
    refine kw_iconst hB P_isGoodKey_92 (v := nI 1) (by decide) ?_
    refine kw_goto hB P_isGoodKey_93 ?_
    refine kw_zret hF rfl (by first | rfl | decide) P_isGoodKey_97 ?_ (by first | (simp [jLs_len]; done) | (simp [*]; done))
    exact ⟨by rw [show jPg ga gb 2 k = true by simp only [jPg]; rw [hbA, hbB, jb_t h, jb_f h2]; rfl]; rfl, rfl⟩
set_option maxHeartbeats 4000000 in
set_option maxRecDepth 100000 in
theorem c_P_use {p a b ch0 n1 g1 n2 g2 ch : Nat} {x1 x2 : Nat → Nat} (hp : jPr X p ch0) (h1 : jLx X (p + 1)) (h3 : jLx X (p + 3)) (ha : jLv X a n1 g1 x1) (hb : jLv X b n2 g2 x2) (da : a ≠ p ∧ a + 1 ≠ p ∧ (a + 1 < p ∨ p + 4 < a)) (db : b + 1 < p ∨ p + 4 < b) : AMet l D g 2 0 0 m_P_use [.ref p, .ref a, .ref b, .int (nI ch)] X (fun r X' => r = none ∧ jPr X' p ch ∧ jLv X' (p + 1) n1 g1 x1 ∧ jLv X' (p + 3) n2 g2 x2 ∧ jfr [p, p + 1, p + 2, p + 3, p + 4] X X') := by
  obtain ⟨-, -, da⟩ := da
  have r1 := h1.choose_spec.choose_spec.choose_spec.1
  refine ja_metK (by decide) rfl (Nat.le_of_ble_eq_true rfl) fun K hB hF => ?_
  refine kw_aload_n hB P_use_0 rfl ?_
  refine kw_getf hB P_use_1 f_P_10 hp rfl ?_
  refine kw_aload_n hB P_use_4 rfl ?_
  refine kw_callV hB P_use_5 s_P_19 im_L_copy se_L_copy r1 rfl rfl (As := [.ref a]) (v_L_copy l D g h1 ha (by omega)) rfl (by decide) (Nat.le_of_ble_eq_true rfl) (by omega) (by omega) (fun r X1 hq hl => ?_)
  obtain ⟨rfl, q1, q2⟩ := hq
  have hp1 : jPr X1 p ch0 := q2.at (by simp <;> omega) hp
  have h31 : jLx X1 (p + 3) := h3.fr q2 (by simp <;> omega) (by simp <;> omega)
  have hb1 : jLv X1 b n2 g2 x2 := hb.fr q2 (by simp <;> omega) (by simp <;> omega)
  have r3 := h31.choose_spec.choose_spec.choose_spec.1
  refine kw_aload_n hB P_use_8 rfl ?_
  refine kw_getf hB P_use_9 f_P_16 hp1 rfl ?_
  refine kw_aload_n hB P_use_12 rfl ?_
  refine kw_callV hB P_use_13 s_P_19 im_L_copy se_L_copy r3 rfl rfl (As := [.ref b]) (v_L_copy l D g h31 hb1 (by omega)) rfl (by decide) (Nat.le_of_ble_eq_true rfl) (by omega) (by omega) (fun r X2 hq hl2 => ?_)
  obtain ⟨rfl, q3, q4⟩ := hq
  have hp2 : jPr X2 p ch0 := q4.at (by simp <;> omega) hp1
  have q5 := q1.fr q4 (by simp <;> omega) (by simp <;> omega)
  refine kw_aload_n hB P_use_16 rfl ?_
  refine kw_iload_n hB P_use_17 rfl ?_
  refine kw_putf hB P_use_18 f_P_23 jc_P jw_P_2 hp2 (Nat.le_of_ble_eq_true rfl) rfl rfl ?_
  refine kw_vret hF rfl P_use_21 ?_ (by simp; omega)
  have hs := jset_fr X2 p (.inr (3, [.ref (p + 1), .ref (p + 3), .int (nI ch)]))
  refine ⟨rfl, ?_, q5.fr hs (by simp <;> omega) (by simp <;> omega), q3.fr hs (by simp <;> omega) (by simp <;> omega), ?_⟩
  · exact List.getElem?_set_self (List.getElem?_eq_some_iff.mp hp2).1
  · exact (q2.mono (by simp)).tr ((q4.mono (by simp)).tr (hs.mono (by simp)))
end JR
