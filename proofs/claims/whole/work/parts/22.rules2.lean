-- Sequence, Guarded
section JR2
variable (l : Launch) (D : va_G) (g : Nat × Nat) {X : ja_H}
set_option maxHeartbeats 4000000 in
set_option maxRecDepth 100000 in
theorem c_Q_keyOf {p na ga s S : Nat} {xa : Nat → Nat} (hp : jQr X p) (ha : jLv X (p + 1) na ga xa) (hs : s < na) : AMet l D g 1 0 0 m_Q_keyOf [.ref p, .int (nI s), .int (nI S)] X (fun r X' => r = some (.int (nI (jQk ga s S))) ∧ X' = X) := by
  have ra := ha.choose_spec.1.1
  refine ja_metK (by decide) rfl (Nat.le_of_ble_eq_true rfl) fun K hB hF => ?_
  refine kw_iload_n hB Q_keyOf_0 rfl ?_
  refine kw_bipush hB Q_keyOf_1 (v := nI 64) (by decide) ?_
  refine kn_imul hB Q_keyOf_3 ?_
  refine kw_aload_n hB Q_keyOf_4 rfl ?_
  refine kw_getf hB Q_keyOf_5 f_Q_12 hp rfl ?_
  refine kw_iload_n hB Q_keyOf_8 rfl ?_
  refine kw_callV hB Q_keyOf_9 s_Q_38 im_L_isGood se_L_isGood ra rfl rfl (As := [.int (nI s)]) (v_L_isGood l D g ha hs) rfl (by decide) (Nat.le_of_ble_eq_true rfl) (by omega) (by omega) (fun r X1 hq hl => ?_)
  obtain ⟨rfl, hxeq⟩ := hq
  obtain rfl := hxeq.symm
  refine kn_if_eq hB Q_keyOf_12 (by cases ga.testBit s <;> decide) (fun h => ?_) (fun h => ?_)
  · refine kw_iload_n hB Q_keyOf_21 rfl ?_
    refine kn_iadd hB Q_keyOf_22 ?_
    refine kw_iret hF rfl Q_keyOf_23 ?_ (by first | (simp [jLs_len]; done) | (simp [*]; done))
    exact ⟨by rw [jQk, jb_f h]; rfl, rfl⟩
  · refine kw_iload_n hB Q_keyOf_15 rfl ?_
    refine kw_iconst hB Q_keyOf_16 (v := nI 1) (by decide) ?_
    refine kn_ior hB Q_keyOf_17 ?_
    refine kw_goto hB Q_keyOf_18 ?_
    refine kn_iadd hB Q_keyOf_22 ?_
    refine kw_iret hF rfl Q_keyOf_23 ?_ (by first | (simp [jLs_len]; done) | (simp [*]; done))
    exact ⟨by rw [jQk, jb_t h]; rfl, rfl⟩
set_option maxHeartbeats 4000000 in
set_option maxRecDepth 100000 in
theorem c_Q_firstKey {p na ga : Nat} {xa : Nat → Nat} (hp : jQr X p) (ha : jLv X (p + 1) na ga xa) : AMet l D g 2 0 0 m_Q_firstKey [.ref p] X (fun r X' => r = some (.int (nI (jQk ga 0 0))) ∧ X' = X) := by
  obtain ⟨-, hn1, -⟩ := ha.good
  refine ja_metK (by decide) rfl (Nat.le_of_ble_eq_true rfl) fun K hB hF => ?_
  refine kw_aload_n hB Q_firstKey_0 rfl ?_
  refine kw_iconst hB Q_firstKey_1 (v := nI 0) (by decide) ?_
  refine kw_iconst hB Q_firstKey_2 (v := nI 0) (by decide) ?_
  refine kw_callV hB Q_firstKey_3 s_Q_23 im_Q_keyOf se_Q_keyOf hp rfl rfl (As := [.int (nI 0), .int (nI 0)]) (c_Q_keyOf l D g hp ha (by omega)) rfl (by decide) (Nat.le_of_ble_eq_true rfl) (by omega) (by omega) (fun r X1 hq hl => ?_)
  obtain ⟨rfl, hxeq⟩ := hq
  obtain rfl := hxeq.symm
  refine kw_iret hF rfl Q_firstKey_6 ?_ (by first | (simp [jLs_len]; done) | (simp [*]; done))
  exact ⟨rfl, rfl⟩
set_option maxHeartbeats 4000000 in
set_option maxRecDepth 100000 in
theorem c_Q_isGoodKey {p nb gb k : Nat} {xb : Nat → Nat} (hp : jQr X p) (hb : jLv X (p + 3) nb gb xb) (hk : k < 2 ^ 31) : AMet l D g 1 0 0 m_Q_isGoodKey [.ref p, .int (nI k)] X (fun r X' => r = some (.int (nI (decide (gb &&& (k % 64) ≠ 0)).toNat)) ∧ X' = X) := by
  have rb := hb.choose_spec.1.1
  refine ja_metK (by decide) rfl (Nat.le_of_ble_eq_true rfl) fun K hB hF => ?_
  refine kw_aload_n hB Q_isGoodKey_0 rfl ?_
  refine kw_getf hB Q_isGoodKey_1 f_Q_16 hp rfl ?_
  refine kw_iload_n hB Q_isGoodKey_4 rfl ?_
  refine kw_bipush hB Q_isGoodKey_5 (v := nI 64) (by decide) ?_
  refine kn_irem hB Q_isGoodKey_7 (by omega) (by decide) (by decide) ?_
  refine kw_callV hB Q_isGoodKey_8 s_Q_34 im_L_hasGood se_L_hasGood rb rfl rfl (As := [.int (nI (k % 64))]) (v_L_hasGood l D g hb) rfl (by decide) (Nat.le_of_ble_eq_true rfl) (by omega) (by omega) (fun r X1 hq hl => ?_)
  obtain ⟨rfl, hxeq⟩ := hq
  obtain rfl := hxeq.symm
  refine kw_zret hF rfl (by cases decide (gb &&& (k % 64) ≠ 0) <;> decide) Q_isGoodKey_11 ?_ (by simp)
  exact ⟨rfl, rfl⟩
set_option maxHeartbeats 4000000 in
set_option maxRecDepth 100000 in
theorem c_Q_keyAfter {p na ga nb gb k c : Nat} {xa xb : Nat → Nat} (hp : jQr X p) (ha : jLv X (p + 1) na ga xa) (hb : jLv X (p + 3) nb gb xb) (hnb : nb ≤ 6) (hk1 : k / 64 < na) (h1 : 1 ≤ c) (h8 : c ≤ 8) : AMet l D g 2 0 0 m_Q_keyAfter [.ref p, .int (nI k), .int (nI c)] X (fun r X' => r = some (.int (nI (jQn xa xb ga nb k c))) ∧ X' = X) := by
  obtain ⟨na24, -, -, hxa⟩ := ha.good
  obtain ⟨-, -, -, hxb⟩ := hb.good
  have ra := ha.choose_spec.1.1
  have rb := hb.choose_spec.1.1
  have hk : k < 2 ^ 31 := by omega
  refine ja_metK (by decide) rfl (Nat.le_of_ble_eq_true rfl) fun K hB hF => ?_
  have loop : ∀ m q, q + m = nb → K 5 [.ref p, .int (nI k), .int (nI c), .int (nI (jQs xb k c q)), .int (nI q)] [] X 0 0 := by
    intro m
    induction m with
    | zero =>
      intro q hq0
      refine kw_iload hB Q_keyAfter_5 rfl ?_
      refine kw_aload_n hB Q_keyAfter_7 rfl ?_
      refine kw_getf hB Q_keyAfter_8 f_Q_16 hp rfl ?_
      refine kw_getf hB Q_keyAfter_11 f_Q_27 rb rfl ?_
      refine kn_icmp_ge hB Q_keyAfter_14 (by omega) (by omega) (fun hc => ?_) (fun hc => absurd hc (by omega))
      refine kw_aload_n hB Q_keyAfter_48 rfl ?_
      refine kw_aload_n hB Q_keyAfter_49 rfl ?_
      refine kw_getf hB Q_keyAfter_50 f_Q_12 hp rfl ?_
      refine kw_iload_n hB Q_keyAfter_53 rfl ?_
      refine kw_bipush hB Q_keyAfter_54 (v := nI 64) (by decide) ?_
      refine kn_idiv hB Q_keyAfter_56 (by omega) (by decide) (by decide) ?_
      refine kw_iload_n hB Q_keyAfter_57 rfl ?_
      refine kw_callV hB Q_keyAfter_58 s_Q_31 im_L_after se_L_after ra rfl rfl (As := [.int (nI (k / 64)), .int (nI c)]) (v_L_after l D g ha hk1 h1 h8) rfl (by decide) (Nat.le_of_ble_eq_true rfl) (by omega) (by omega) (fun r X1 hq hl => ?_)
      obtain ⟨rfl, hxeq⟩ := hq
      obtain rfl := hxeq.symm
      refine kw_iload_n hB Q_keyAfter_61 rfl ?_
      refine kw_callV hB Q_keyAfter_62 s_Q_23 im_Q_keyOf se_Q_keyOf hp rfl rfl (As := [.int (nI (xa (k / 64 * 8 + c - 1))), .int (nI (jQs xb k c q))]) (c_Q_keyOf l D g hp ha (hxa _ (by omega))) rfl (by decide) (Nat.le_of_ble_eq_true rfl) (by omega) (by omega) (fun r X1 hq hl => ?_)
      obtain ⟨rfl, hxeq⟩ := hq
      obtain rfl := hxeq.symm
      refine kw_iret hF rfl Q_keyAfter_65 ?_ (by first | (simp [jLs_len]; done) | (simp [*]; done))
      exact ⟨by rw [jQn, show q = nb by omega], rfl⟩
    | succ m ih =>
      intro q hq0
      refine kw_iload hB Q_keyAfter_5 rfl ?_
      refine kw_aload_n hB Q_keyAfter_7 rfl ?_
      refine kw_getf hB Q_keyAfter_8 f_Q_16 hp rfl ?_
      refine kw_getf hB Q_keyAfter_11 f_Q_27 rb rfl ?_
      refine kn_icmp_ge hB Q_keyAfter_14 (by omega) (by omega) (fun hc => absurd hc (by omega)) (fun hc => ?_)
      refine kw_iload_n hB Q_keyAfter_17 rfl ?_
      refine kw_iload hB Q_keyAfter_18 rfl ?_
      refine kn_ishr hB Q_keyAfter_20 (by omega) hk ?_
      refine kw_iconst hB Q_keyAfter_21 (v := nI 1) (by decide) ?_
      refine kn_iand hB Q_keyAfter_22 ?_
      rw [Nat.and_one_is_mod, jb_bit]
      refine kw_iconst hB Q_keyAfter_23 (v := nI 1) (by decide) ?_
      have nxt : ∀ v, v = jQs xb k c (q + 1) → K 42 [.ref p, .int (nI k), .int (nI c), .int (nI v), .int (nI q)] [] X 0 0 := by
        intro v hv
        subst hv
        refine kn_iinc hB Q_keyAfter_42 rfl (by decide) rfl ?_
        refine kw_goto hB Q_keyAfter_45 ?_
        exact ih (q + 1) (by omega)
      refine kn_icmp_ne hB Q_keyAfter_24 (by split <;> decide) (by decide) (fun h => ?_) (fun h => ?_)
      · exact nxt _ (by rw [jQs, if_neg]; intro z; rw [if_pos z] at h; exact h rfl)
      · have hbit : k.testBit q = true := by cases hb : k.testBit q with | true => rfl | false => rw [hb] at h; cases h
        have hxl := hxb (q * 8 + c - 1) (by omega)
        refine kw_iload_n hB Q_keyAfter_27 rfl ?_
        refine kw_iconst hB Q_keyAfter_28 (v := nI 1) (by decide) ?_
        refine kw_aload_n hB Q_keyAfter_29 rfl ?_
        refine kw_getf hB Q_keyAfter_30 f_Q_16 hp rfl ?_
        refine kw_iload hB Q_keyAfter_33 rfl ?_
        refine kw_iload_n hB Q_keyAfter_35 rfl ?_
        refine kw_callV hB Q_keyAfter_36 s_Q_31 im_L_after se_L_after rb rfl rfl (As := [.int (nI q), .int (nI c)]) (v_L_after l D g hb (by omega) h1 h8) rfl (by decide) (Nat.le_of_ble_eq_true rfl) (by omega) (by omega) (fun r X1 hq hl => ?_)
        obtain ⟨rfl, hxeq⟩ := hq
        obtain rfl := hxeq.symm
        have hp2 : 2 ^ xb (q * 8 + c - 1) < 2 ^ 6 := Nat.pow_lt_pow_right (by decide) (by omega)
        refine kn_ishl hB Q_keyAfter_39 (by omega) (by omega) ?_
        refine kn_ior hB Q_keyAfter_40 ?_
        rw [Nat.one_mul]
        refine kw_istore_n hB Q_keyAfter_41 rfl (by decide) rfl ?_
        exact nxt _ (by rw [jQs, if_pos hbit])
  refine kw_iconst hB Q_keyAfter_0 (v := nI 0) (by decide) ?_
  refine kw_istore_n hB Q_keyAfter_1 rfl (by decide) rfl ?_
  refine kw_iconst hB Q_keyAfter_2 (v := nI 0) (by decide) ?_
  refine kw_istore hB Q_keyAfter_3 (by decide) rfl ?_
  exact loop nb 0 (by omega)
set_option maxHeartbeats 4000000 in
set_option maxRecDepth 100000 in
theorem c_Q_use {p a b n1 g1 n2 g2 : Nat} {x1 x2 : Nat → Nat} (hp : jQr X p) (h1 : jLx X (p + 1)) (h3 : jLx X (p + 3)) (ha : jLv X a n1 g1 x1) (hb : jLv X b n2 g2 x2) (da : a + 1 < p ∨ p + 4 < a) (db : b + 1 < p ∨ p + 4 < b) : AMet l D g 2 0 0 m_Q_use [.ref p, .ref a, .ref b] X (fun r X' => r = none ∧ jQr X' p ∧ jLv X' (p + 1) n1 g1 x1 ∧ jLv X' (p + 3) n2 g2 x2 ∧ jfr [p + 1, p + 2, p + 3, p + 4] X X') := by
  have r1 := h1.choose_spec.choose_spec.choose_spec.1
  refine ja_metK (by decide) rfl (Nat.le_of_ble_eq_true rfl) fun K hB hF => ?_
  refine kw_aload_n hB Q_use_0 rfl ?_
  refine kw_getf hB Q_use_1 f_Q_12 hp rfl ?_
  refine kw_aload_n hB Q_use_4 rfl ?_
  refine kw_callV hB Q_use_5 s_Q_19 im_L_copy se_L_copy r1 rfl rfl (As := [.ref a]) (v_L_copy l D g h1 ha (by omega)) rfl (by decide) (Nat.le_of_ble_eq_true rfl) (by omega) (by omega) (fun r X1 hq hl => ?_)
  obtain ⟨rfl, q1, q2⟩ := hq
  have hp1 : jQr X1 p := q2.at (by simp <;> omega) hp
  have h31 : jLx X1 (p + 3) := h3.fr q2 (by simp <;> omega) (by simp <;> omega)
  have hb1 : jLv X1 b n2 g2 x2 := hb.fr q2 (by simp <;> omega) (by simp <;> omega)
  have r3 := h31.choose_spec.choose_spec.choose_spec.1
  refine kw_aload_n hB Q_use_8 rfl ?_
  refine kw_getf hB Q_use_9 f_Q_16 hp1 rfl ?_
  refine kw_aload_n hB Q_use_12 rfl ?_
  refine kw_callV hB Q_use_13 s_Q_19 im_L_copy se_L_copy r3 rfl rfl (As := [.ref b]) (v_L_copy l D g h31 hb1 (by omega)) rfl (by decide) (Nat.le_of_ble_eq_true rfl) (by omega) (by omega) (fun r X2 hq hl2 => ?_)
  obtain ⟨rfl, q3, q4⟩ := hq
  have hp2 : jQr X2 p := q4.at (by simp <;> omega) hp1
  have q5 := q1.fr q4 (by simp <;> omega) (by simp <;> omega)
  refine kw_vret hF rfl Q_use_16 ?_ (by omega)
  exact ⟨rfl, hp2, q5, q3, (q2.mono (by simp)).tr (q4.mono (by simp))⟩
set_option maxHeartbeats 4000000 in
set_option maxRecDepth 100000 in
theorem c_G_use {p a n1 g1 : Nat} {x1 : Nat → Nat} (hp : jGr X p) (h1 : jLx X (p + 1)) (ha : jLv X a n1 g1 x1) (da : a + 1 < p ∨ p + 2 < a) : AMet l D g 2 0 0 m_G_use [.ref p, .ref a] X (fun r X' => r = none ∧ jGr X' p ∧ jLv X' (p + 1) n1 g1 x1 ∧ jfr [p + 1, p + 2] X X') := by
  have r1 := h1.choose_spec.choose_spec.choose_spec.1
  refine ja_metK (by decide) rfl (Nat.le_of_ble_eq_true rfl) fun K hB hF => ?_
  refine kw_aload_n hB G_use_0 rfl ?_
  refine kw_getf hB G_use_1 f_G_12 hp rfl ?_
  refine kw_aload_n hB G_use_4 rfl ?_
  refine kw_callV hB G_use_5 s_G_16 im_L_copy se_L_copy r1 rfl rfl (As := [.ref a]) (v_L_copy l D g h1 ha (by omega)) rfl (by decide) (Nat.le_of_ble_eq_true rfl) (by omega) (by omega) (fun r X1 hq hl => ?_)
  obtain ⟨rfl, q1, q2⟩ := hq
  have hp1 : jGr X1 p := q2.at (by simp <;> omega) hp
  refine kw_vret hF rfl G_use_8 ?_ (by omega)
  exact ⟨rfl, hp1, q1, q2⟩
set_option maxHeartbeats 4000000 in
set_option maxRecDepth 100000 in
theorem c_G_isGoodKey {p n gd k : Nat} {x : Nat → Nat} (hp : jGr X p) (ha : jLv X (p + 1) n gd x) (hk : k ≤ 72) (hk3 : k = 72 ∨ k / 3 < n) : AMet l D g 1 0 0 m_G_isGoodKey [.ref p, .int (nI k)] X (fun r X' => r = some (.int (nI (jGg gd k).toNat)) ∧ X' = X) := by
  have ra := ha.choose_spec.1.1
  refine ja_metK (by decide) rfl (Nat.le_of_ble_eq_true rfl) fun K hB hF => ?_
  have no : jGg gd k = false → K 29 [.ref p, .int (nI k)] [] X 0 0 := by
    intro h
    refine kw_iconst hB G_isGoodKey_29 (v := nI 0) (by decide) ?_
    refine kw_zret hF rfl (by first | rfl | decide) G_isGoodKey_30 ?_ (by first | (simp [jLs_len]; done) | (simp [*]; done))
    exact ⟨by rw [h]; rfl, rfl⟩
  refine kw_iload_n hB G_isGoodKey_0 rfl ?_
  refine kw_bipush hB G_isGoodKey_1 (v := nI 72) (by decide) ?_
  refine kn_icmp_eq hB G_isGoodKey_3 (by omega) (by decide) (fun h => no (by simp [jGg, h])) (fun h => ?_)
  refine kw_iload_n hB G_isGoodKey_6 rfl ?_
  refine kw_iconst hB G_isGoodKey_7 (v := nI 3) (by decide) ?_
  refine kn_irem hB G_isGoodKey_8 (by omega) (by decide) (by decide) ?_
  refine kn_if_ne hB G_isGoodKey_9 (by omega) (fun h2 => no (by simp [jGg, h2])) (fun h2 => ?_)
  refine kw_aload_n hB G_isGoodKey_12 rfl ?_
  refine kw_getf hB G_isGoodKey_13 f_G_12 hp rfl ?_
  refine kw_iload_n hB G_isGoodKey_16 rfl ?_
  refine kw_iconst hB G_isGoodKey_17 (v := nI 3) (by decide) ?_
  refine kn_idiv hB G_isGoodKey_18 (by omega) (by decide) (by decide) ?_
  refine kw_callV hB G_isGoodKey_19 s_G_34 im_L_isGood se_L_isGood ra rfl rfl (As := [.int (nI (k / 3))]) (v_L_isGood l D g ha (by omega)) rfl (by decide) (Nat.le_of_ble_eq_true rfl) (by omega) (by omega) (fun r X1 hq hl => ?_)
  obtain ⟨rfl, hxeq⟩ := hq
  obtain rfl := hxeq.symm
  refine kn_if_eq hB G_isGoodKey_22 (by cases gd.testBit (k / 3) <;> decide) (fun h3 => no (by simp [jGg, jb_f h3])) (fun h3 => ?_)
  refine kw_iconst hB G_isGoodKey_25 (v := nI 1) (by decide) ?_
  refine kw_goto hB G_isGoodKey_26 ?_
  refine kw_zret hF rfl (by first | rfl | decide) G_isGoodKey_30 ?_ (by first | (simp [jLs_len]; done) | (simp [*]; done))
  exact ⟨by rw [show jGg gd k = true by simp [jGg, h, h2, jb_t h3]]; rfl, rfl⟩
set_option maxHeartbeats 4000000 in
set_option maxRecDepth 100000 in
theorem c_G_keyAfter {p n gd k c : Nat} {x : Nat → Nat} (hp : jGr X p) (ha : jLv X (p + 1) n gd x) (hk : k ≤ 72) (hk3 : k = 72 ∨ k / 3 < n) (h1 : 1 ≤ c) (h8 : c ≤ 8) : AMet l D g 1 0 0 m_G_keyAfter [.ref p, .int (nI k), .int (nI c)] X (fun r X' => r = some (.int (nI (jGn x k c))) ∧ X' = X) := by
  have ra := ha.choose_spec.1.1
  have hsy : jsym c < 2 ^ 30 := by unfold jsym; omega
  refine ja_metK (by decide) rfl (Nat.le_of_ble_eq_true rfl) fun K hB hF => ?_
  refine kw_iload_n hB G_keyAfter_0 rfl ?_
  refine kw_bipush hB G_keyAfter_1 (v := nI 72) (by decide) ?_
  refine kn_icmp_ne hB G_keyAfter_3 (by omega) (by decide) (fun hne => ?_) (fun h => ?_)
  rotate_left
  · refine kw_bipush hB G_keyAfter_6 (v := nI 72) (by decide) ?_
    refine kw_iret hF rfl G_keyAfter_8 ?_ (by first | (simp [jLs_len]; done) | (simp [*]; done))
    exact ⟨by simp [jGn, h], rfl⟩
  have hkn : k / 3 < n := by omega
  refine kw_iload_n hB G_keyAfter_9 rfl ?_
  refine kw_iconst hB G_keyAfter_10 (v := nI 3) (by decide) ?_
  refine kn_idiv hB G_keyAfter_11 (by omega) (by decide) (by decide) ?_
  refine kw_istore_n hB G_keyAfter_12 rfl (by decide) rfl ?_
  refine kw_iload_n hB G_keyAfter_13 rfl ?_
  refine kw_iconst hB G_keyAfter_14 (v := nI 3) (by decide) ?_
  refine kn_irem hB G_keyAfter_15 (by omega) (by decide) (by decide) ?_
  refine kw_istore hB G_keyAfter_16 (by decide) rfl ?_
  refine kw_iload_n hB G_keyAfter_18 rfl ?_
  refine kw_callS hB G_keyAfter_19 s_G_20 st_W_symbol (As := [.int (nI c)]) (c_W_symbol l D g (by omega)) rfl (by decide) (Nat.le_of_ble_eq_true rfl) (by omega) (by omega) (fun r X1 hq hl => ?_)
  obtain ⟨rfl, hxeq⟩ := hq
  obtain rfl := hxeq.symm
  refine kw_istore hB G_keyAfter_22 (by decide) rfl ?_
  refine kw_iload_n hB G_keyAfter_24 rfl ?_
  refine kw_callS hB G_keyAfter_25 s_G_26 st_W_isTainted (As := [.int (nI c)]) (c_W_isTainted l D g (by omega)) rfl (by decide) (Nat.le_of_ble_eq_true rfl) (by omega) (by omega) (fun r X1 hq hl => ?_)
  obtain ⟨rfl, hxeq⟩ := hq
  obtain rfl := hxeq.symm
  have go : ∀ t : Nat, t = (if jtnt c then 2 else 1) → K 36 [.ref p, .int (nI k), .int (nI c), .int (nI (k / 3)), .int (nI (k % 3)), .int (nI (jsym c)), .retAddr 0, .retAddr 0, .retAddr 0] [.int (nI t)] X 0 0 := by
    intro t ht
    have htl : t < 2 ^ 31 := by rw [ht]; split <;> decide
    refine kw_istore hB G_keyAfter_36 (by decide) rfl ?_
    refine kw_iload hB G_keyAfter_38 rfl ?_
    refine kw_iconst hB G_keyAfter_40 (v := nI 3) (by decide) ?_
    have sp : ∀ b : Bool, (b = true ↔ jsym c = 3 ∨ jsym c = 4) → K 55 [.ref p, .int (nI k), .int (nI c), .int (nI (k / 3)), .int (nI (k % 3)), .int (nI (jsym c)), .int (nI t), .retAddr 0, .retAddr 0] [.int (nI b.toNat)] X 0 0 := by
      intro b hb
      have lb : b.toNat < 2 ^ 31 := by cases b <;> decide
      have last : ∀ ft : Bool, ¬ (k % 3 = 0 ∧ jsym c = 4) → (ft = true ↔ (if k % 3 = 0 then ¬ (jsym c = 3 ∨ jsym c = 4) else (jsym c = 3 ∨ jsym c = 4) ∧ k % 3 = (if jtnt c then 2 else 1))) → K 110 [.ref p, .int (nI k), .int (nI c), .int (nI (k / 3)), .int (nI (k % 3)), .int (nI (jsym c)), .int (nI t), .int (nI b.toNat), .retAddr 0] [.int (nI ft.toNat)] X 0 0 := by
        intro ft hn0 hft
        refine kw_istore hB G_keyAfter_110 (by decide) rfl ?_
        refine kw_iload hB G_keyAfter_112 rfl ?_
        refine kn_if_eq hB G_keyAfter_114 (by cases ft <;> decide) (fun h => ?_) (fun h => ?_)
        · have hf := jb_f h
          refine kw_bipush hB G_keyAfter_131 (v := nI 72) (by decide) ?_
          refine kw_iret hF rfl G_keyAfter_133 ?_ (by first | (simp [jLs_len]; done) | (simp [*]; done))
          refine ⟨?_, rfl⟩
          unfold jGn
          rw [if_neg hne, if_neg hn0, if_neg (fun z => by have := hft.mpr z; rw [hf] at this; cases this)]
        · have hf := hft.mp (jb_t h)
          refine kw_aload_n hB G_keyAfter_117 rfl ?_
          refine kw_getf hB G_keyAfter_118 f_G_12 hp rfl ?_
          refine kw_iload_n hB G_keyAfter_121 rfl ?_
          refine kw_iload_n hB G_keyAfter_122 rfl ?_
          refine kw_callV hB G_keyAfter_123 s_G_30 im_L_after se_L_after ra rfl rfl (As := [.int (nI (k / 3)), .int (nI c)]) (v_L_after l D g ha hkn h1 h8) rfl (by decide) (Nat.le_of_ble_eq_true rfl) (by omega) (by omega) (fun r X1 hq hl => ?_)
          obtain ⟨rfl, hxeq⟩ := hq
          obtain rfl := hxeq.symm
          refine kw_iconst hB G_keyAfter_126 (v := nI 3) (by decide) ?_
          refine kn_imul hB G_keyAfter_127 ?_
          refine kw_goto hB G_keyAfter_128 ?_
          refine kw_iret hF rfl G_keyAfter_133 ?_ (by first | (simp [jLs_len]; done) | (simp [*]; done))
          refine ⟨?_, rfl⟩
          unfold jGn
          rw [if_neg hne, if_neg hn0, if_pos hf]
      have mid : ¬ (k % 3 = 0 ∧ jsym c = 4) → K 75 [.ref p, .int (nI k), .int (nI c), .int (nI (k / 3)), .int (nI (k % 3)), .int (nI (jsym c)), .int (nI t), .int (nI b.toNat), .retAddr 0] [] X 0 0 := by
        intro hn0
        refine kw_iload hB G_keyAfter_75 rfl ?_
        refine kn_if_ne hB G_keyAfter_77 (by omega) (fun hw => ?_) (fun hw => ?_)
        · refine kw_iload hB G_keyAfter_93 rfl ?_
          refine kn_if_eq hB G_keyAfter_95 lb (fun h => ?_) (fun h => ?_)
          · refine kw_iconst hB G_keyAfter_109 (v := nI 0) (by decide) ?_
            refine last false hn0 ?_
            rw [if_neg hw]
            have := jb_f h
            constructor
            · intro z; cases z
            · rintro ⟨z, -⟩; have := hb.mpr z; rw [jb_f h] at this; cases this
          · refine kw_iload hB G_keyAfter_98 rfl ?_
            refine kw_iload hB G_keyAfter_100 rfl ?_
            have hs := hb.mp (jb_t h)
            refine kn_icmp_ne hB G_keyAfter_102 (by omega) htl (fun h2 => ?_) (fun h2 => ?_)
            · refine kw_iconst hB G_keyAfter_109 (v := nI 0) (by decide) ?_
              refine last false hn0 ?_
              rw [if_neg hw]
              constructor
              · intro z; cases z
              · rintro ⟨-, z⟩; exact absurd (z.trans ht.symm) h2
            · refine kw_iconst hB G_keyAfter_105 (v := nI 1) (by decide) ?_
              refine kw_goto hB G_keyAfter_106 ?_
              refine last true hn0 ?_
              rw [if_neg hw]
              exact ⟨fun _ => ⟨hs, h2.trans ht⟩, fun _ => rfl⟩
        · refine kw_iload hB G_keyAfter_80 rfl ?_
          refine kn_if_ne hB G_keyAfter_82 lb (fun h => ?_) (fun h => ?_)
          · refine kw_iconst hB G_keyAfter_89 (v := nI 0) (by decide) ?_
            refine kw_goto hB G_keyAfter_90 ?_
            refine last false hn0 ?_
            rw [if_pos hw]
            exact ⟨fun z => (by cases z), fun z => absurd (hb.mp (jb_t h)) z⟩
          · refine kw_iconst hB G_keyAfter_85 (v := nI 1) (by decide) ?_
            refine kw_goto hB G_keyAfter_86 ?_
            refine last true hn0 ?_
            rw [if_pos hw]
            exact ⟨fun _ z => (by have := hb.mpr z; rw [jb_f h] at this; cases this), fun _ => rfl⟩
      refine kw_istore hB G_keyAfter_55 (by decide) rfl ?_
      refine kw_iload hB G_keyAfter_57 rfl ?_
      refine kn_if_ne hB G_keyAfter_59 (by omega) (fun hw => mid (fun z => hw z.1)) (fun hw => ?_)
      refine kw_iload hB G_keyAfter_62 rfl ?_
      refine kw_iconst hB G_keyAfter_64 (v := nI 4) (by decide) ?_
      refine kn_icmp_ne hB G_keyAfter_65 (by omega) (by decide) (fun h4 => mid (fun z => h4 z.2)) (fun h4 => ?_)
      refine kw_iload_n hB G_keyAfter_68 rfl ?_
      refine kw_iconst hB G_keyAfter_69 (v := nI 3) (by decide) ?_
      refine kn_imul hB G_keyAfter_70 ?_
      refine kw_iload hB G_keyAfter_71 rfl ?_
      refine kn_iadd hB G_keyAfter_73 ?_
      refine kw_iret hF rfl G_keyAfter_74 ?_ (by first | (simp [jLs_len]; done) | (simp [*]; done))
      refine ⟨?_, rfl⟩
      unfold jGn
      rw [if_neg hne, if_pos ⟨hw, h4⟩, ht]
    refine kn_icmp_eq hB G_keyAfter_41 (by omega) (by decide) (fun h3 => ?_) (fun h3 => ?_)
    · refine kw_iconst hB G_keyAfter_50 (v := nI 1) (by decide) ?_
      refine kw_goto hB G_keyAfter_51 ?_
      exact sp true (by simp [h3])
    · refine kw_iload hB G_keyAfter_44 rfl ?_
      refine kw_iconst hB G_keyAfter_46 (v := nI 4) (by decide) ?_
      refine kn_icmp_ne hB G_keyAfter_47 (by omega) (by decide) (fun h4 => ?_) (fun h4 => ?_)
      · refine kw_iconst hB G_keyAfter_54 (v := nI 0) (by decide) ?_
        exact sp false (by simp [h3, h4])
      · refine kw_iconst hB G_keyAfter_50 (v := nI 1) (by decide) ?_
        refine kw_goto hB G_keyAfter_51 ?_
        exact sp true (by simp [h4])
  refine kn_if_eq hB G_keyAfter_28 (by cases jtnt c <;> decide) (fun h => ?_) (fun h => ?_)
  · refine kw_iconst hB G_keyAfter_35 (v := nI 1) (by decide) ?_
    exact go 1 (by rw [jb_f h]; rfl)
  · refine kw_iconst hB G_keyAfter_31 (v := nI 2) (by decide) ?_
    refine kw_goto hB G_keyAfter_32 ?_
    exact go 2 (by rw [jb_t h]; rfl)
end JR2
