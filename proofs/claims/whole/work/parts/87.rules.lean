-- the model: step, takes, after; the rules ALL, SAME, EITHER, THEN
/-- language L lies in slot a -/
def jAt (st gd tb : Nat → Int32) (a : Nat) (L : jLan) : Prop := jOk L ∧ st a = nI L.1 ∧ gd a = nI L.2.1 ∧ ∀ i, i < 8 * L.1 → tb (192 * a + i) = nI (jXf L i)
theorem jAt.mv {st gd tb st' gd' tb' : Nat → Int32} {a : Nat} {L : jLan} (h : jAt st gd tb a L) (ha : a ≠ 41) (h1 : ∀ i, i ≠ 41 → st' i = st i) (h2 : ∀ i, i ≠ 41 → gd' i = gd i) (h3 : ∀ i, i < 7872 ∨ 8064 ≤ i → tb' i = tb i) : jAt st' gd' tb' a L := by
  obtain ⟨q1, q2, q3, q4⟩ := h
  have := q1.2.2.1
  exact ⟨q1, by rw [h1 a ha]; exact q2, by rw [h2 a ha]; exact q3, fun i hi => by rw [h3 _ (by omega)]; exact q4 i hi⟩
section JML
variable (l : Launch) (D : va_G) (g : Nat × Nat) {X : ja_H} {s st gd tb : Nat → Int32}
set_option maxHeartbeats 4000000 in
set_option maxRecDepth 100000 in
theorem c_M_step {a q c : Nat} {L : jLan} (h : jTr X s st gd tb) (hL : jAt st gd tb a L) (ha : a < 43) (hq : q < L.1) (h1 : 1 ≤ c) (h8 : c ≤ 8) : AMet l D g 0 0 0 m_M_step [.ref 145, .int (nI a), .int (nI q), .int (nI c)] X (fun r X' => r = some (.int (nI (jXf L (q * 8 + c - 1)))) ∧ X' = X) := by
  have := hL.1.2.2.1
  refine ja_metK (by decide) rfl (Nat.le_of_ble_eq_true rfl) fun K hB hF => ?_
  refine kw_aload_n hB M_step_0 rfl ?_
  refine kw_getf hB M_step_1 f_M_43 h.1 rfl ?_
  refine kw_sipush hB M_step_4 (v := nI 192) (by decide) ?_
  refine kw_iload_n hB M_step_7 rfl ?_
  refine kn_imul hB M_step_8 ?_
  refine kw_bipush hB M_step_9 (v := nI 8) (by decide) ?_
  refine kw_iload_n hB M_step_11 rfl ?_
  refine kn_imul hB M_step_12 ?_
  refine kn_iadd hB M_step_13 ?_
  refine kw_iload_n hB M_step_14 rfl ?_
  refine kn_iadd hB M_step_15 ?_
  refine kw_iconst hB M_step_16 (v := nI 1) (by decide) ?_
  refine kn_isub hB M_step_17 (by omega) ?_
  refine kn_bald hB M_step_18 h.2.2.2 rfl (by omega) (by decide) ?_
  rw [show 192 * a + 8 * q + c - 1 = 192 * a + (q * 8 + c - 1) by omega, hL.2.2.2 _ (by omega)]
  refine kw_iret hF rfl M_step_19 ⟨rfl, rfl⟩ (by simp)
set_option maxHeartbeats 4000000 in
set_option maxRecDepth 100000 in
theorem c_M_takes {a q : Nat} {L : jLan} (h : jTr X s st gd tb) (hL : jAt st gd tb a L) (ha : a < 43) (hq : q < 24) : AMet l D g 0 0 0 m_M_takes [.ref 145, .int (nI a), .int (nI q)] X (fun r X' => r = some (.int (nI (L.2.1.testBit q).toNat)) ∧ X' = X) := by
  have hG : L.2.1 < 2 ^ 24 := Nat.lt_of_lt_of_le hL.1.2.2.2.1 (Nat.pow_le_pow_right (by decide) hL.1.2.2.1)
  refine ja_metK (by decide) rfl (Nat.le_of_ble_eq_true rfl) fun K hB hF => ?_
  refine kw_aload_n hB M_takes_0 rfl ?_
  refine kw_getf hB M_takes_1 f_M_40 h.1 rfl ?_
  refine kw_iload_n hB M_takes_4 rfl ?_
  refine kn_iald hB M_takes_5 h.2.2.1 rfl ha (by decide) ?_
  rw [hL.2.2.1]
  refine kw_iload_n hB M_takes_6 rfl ?_
  refine kw_ishr hB M_takes_7 ?_
  rw [jb_shr (by omega) (by omega)]
  refine kw_iconst hB M_takes_8 (v := nI 1) (by decide) ?_
  refine kw_iand hB M_takes_9 ?_
  rw [jb_and, Nat.and_one_is_mod, jb_bit]
  refine kw_iconst hB M_takes_10 (v := nI 1) (by decide) ?_
  cases hb : L.2.1.testBit q with
  | true =>
    refine kn_icmp_ne hB M_takes_11 (by decide) (by decide) (fun z => absurd rfl z) (fun _ => ?_)
    refine kw_iconst hB M_takes_14 (v := nI 1) (by decide) ?_
    refine kw_goto hB M_takes_15 ?_
    refine kw_zret hF rfl (by first | rfl | decide) M_takes_19 ?_ (by first | (simp [jLs_len]; done) | (simp [*]; done))
    rw [hb]
    exact ⟨rfl, rfl⟩
  | false =>
    refine kn_icmp_ne hB M_takes_11 (by decide) (by decide) (fun _ => ?_) (fun z => absurd z (by decide))
    refine kw_iconst hB M_takes_18 (v := nI 0) (by decide) ?_
    refine kw_zret hF rfl (by first | rfl | decide) M_takes_19 ?_ (by first | (simp [jLs_len]; done) | (simp [*]; done))
    rw [hb]
    exact ⟨rfl, rfl⟩
set_option maxHeartbeats 4000000 in
set_option maxRecDepth 100000 in
theorem c_M_empty {a : Nat} {L : jLan} (h : jTr X s st gd tb) (hL : jAt st gd tb a L) (ha : a < 43) : AMet l D g 0 0 0 m_M_empty [.ref 145, .int (nI a)] X (fun r X' => r = some (.int (nI (decide (L = jEmp)).toNat)) ∧ X' = X) := by
  have hG : L.2.1 < 2 ^ 24 := Nat.lt_of_lt_of_le hL.1.2.2.2.1 (Nat.pow_le_pow_right (by decide) hL.1.2.2.1)
  have he : L = jEmp ↔ L.2.1 = 0 := ⟨fun z => by rw [z]; rfl, fun z => hL.1.ext jEmp_ok (fun w _ => by
    show L.2.1.testBit _ = (0 : Nat).testBit _
    rw [z, Nat.zero_testBit, Nat.zero_testBit])⟩
  refine ja_metK (by decide) rfl (Nat.le_of_ble_eq_true rfl) fun K hB hF => ?_
  refine kw_aload_n hB M_empty_0 rfl ?_
  refine kw_getf hB M_empty_1 f_M_40 h.1 rfl ?_
  refine kw_iload_n hB M_empty_4 rfl ?_
  refine kn_iald hB M_empty_5 h.2.2.1 rfl ha (by decide) ?_
  rw [hL.2.2.1]
  refine kn_if_ne hB M_empty_6 (by omega) (fun z => ?_) (fun z => ?_)
  · refine kw_iconst hB M_empty_13 (v := nI 0) (by decide) ?_
    refine kw_zret hF rfl (by first | rfl | decide) M_empty_14 ?_ (by first | (simp [jLs_len]; done) | (simp [*]; done))
    exact ⟨by rw [decide_eq_false (fun q => z (he.mp q))]; rfl, rfl⟩
  · refine kw_iconst hB M_empty_9 (v := nI 1) (by decide) ?_
    refine kw_goto hB M_empty_10 ?_
    refine kw_zret hF rfl (by first | rfl | decide) M_empty_14 ?_ (by first | (simp [jLs_len]; done) | (simp [*]; done))
    exact ⟨by rw [decide_eq_true (he.mpr z)]; rfl, rfl⟩
set_option maxHeartbeats 4000000 in
set_option maxRecDepth 100000 in
theorem c_M_after {a S c : Nat} {L : jLan} (h : jTr X s st gd tb) (hL : jAt st gd tb a L) (ha : a < 43) (hS : S < 2 ^ 31) (h1 : 1 ≤ c) (h8 : c ≤ 8) : AMet l D g 1 0 0 m_M_after [.ref 145, .int (nI a), .int (nI S), .int (nI c)] X (fun r X' => r = some (.int (nI (jQs (jXf L) S c L.1))) ∧ X' = X) := by
  have h24 := hL.1.2.2.1
  have hxl : ∀ q, q < L.1 → jXf L (q * 8 + c - 1) < 24 := fun q hq => Nat.lt_of_lt_of_le (hL.1.2.2.2.2.1 _ (by omega)) h24
  refine ja_metK (by decide) rfl (Nat.le_of_ble_eq_true rfl) fun K hB hF => ?_
  have loop : ∀ p q, q + p = L.1 → K 6 [.ref 145, .int (nI a), .int (nI S), .int (nI c), .int (nI (jQs (jXf L) S c q)), .int (nI q)] [] X 0 0 := by
    intro p
    induction p with
    | zero =>
      intro q hq
      refine kw_iload hB M_after_6 rfl ?_
      refine kw_aload_n hB M_after_8 rfl ?_
      refine kw_getf hB M_after_9 f_M_37 h.1 rfl ?_
      refine kw_iload_n hB M_after_12 rfl ?_
      refine kn_iald hB M_after_13 h.2.1 rfl ha (by decide) ?_
      rw [hL.2.1]
      refine kn_icmp_ge hB M_after_14 (by omega) (by omega) (fun _ => ?_) (fun z => absurd z (by omega))
      refine kw_iload hB M_after_52 rfl ?_
      refine kw_iret hF rfl M_after_54 ?_ (by first | (simp [jLs_len]; done) | (simp [*]; done))
      exact ⟨by rw [show q = L.1 by omega], rfl⟩
    | succ p ih =>
      intro q hq
      have hx24 := hxl q (by omega)
      refine kw_iload hB M_after_6 rfl ?_
      refine kw_aload_n hB M_after_8 rfl ?_
      refine kw_getf hB M_after_9 f_M_37 h.1 rfl ?_
      refine kw_iload_n hB M_after_12 rfl ?_
      refine kn_iald hB M_after_13 h.2.1 rfl ha (by decide) ?_
      rw [hL.2.1]
      refine kn_icmp_ge hB M_after_14 (by omega) (by omega) (fun z => absurd z (by omega)) (fun _ => ?_)
      refine kw_iload hB M_after_17 rfl ?_
      refine kw_iload_n hB M_after_19 rfl ?_
      refine kw_iload hB M_after_20 rfl ?_
      refine kw_ishr hB M_after_22 ?_
      rw [jb_shr (by omega) hS]
      refine kw_iconst hB M_after_23 (v := nI 1) (by decide) ?_
      refine kw_iand hB M_after_24 ?_
      rw [jb_and, Nat.and_one_is_mod, jb_bit]
      refine kw_iconst hB M_after_25 (v := nI 1) (by decide) ?_
      cases hb : S.testBit q with
      | false =>
        refine kn_icmp_ne hB M_after_26 (by decide) (by decide) (fun _ => ?_) (fun z => absurd z (by decide))
        refine kw_iconst hB M_after_42 (v := nI 0) (by decide) ?_
        refine kn_ior hB M_after_43 ?_
        rw [Nat.or_zero]
        refine kw_istore hB M_after_44 (by decide) rfl ?_
        refine kn_iinc hB M_after_46 rfl (by decide) rfl ?_
        refine kw_goto hB M_after_49 ?_
        have := ih (q + 1) (by omega)
        rw [jQs, hb] at this
        exact this
      | true =>
        refine kn_icmp_ne hB M_after_26 (by decide) (by decide) (fun z => absurd rfl z) (fun _ => ?_)
        refine kw_iconst hB M_after_29 (v := nI 1) (by decide) ?_
        refine kw_aload_n hB M_after_30 rfl ?_
        refine kw_iload_n hB M_after_31 rfl ?_
        refine kw_iload hB M_after_32 rfl ?_
        refine kw_iload_n hB M_after_34 rfl ?_
        refine kw_callV hB M_after_35 s_M_119 im_M_step se_M_step h.1 rfl rfl (As := [.int (nI a), .int (nI q), .int (nI c)]) (c_M_step l D g h hL ha (by omega) h1 h8) rfl (by decide) (Nat.le_of_ble_eq_true rfl) (by omega) (by omega) (fun r X1 hq hl => ?_)
        obtain ⟨rfl, hxeq⟩ := hq
        obtain rfl := hxeq.symm
        refine kn_ishl hB M_after_38 (by omega) (by have : 2 ^ jXf L (q * 8 + c - 1) ≤ 2 ^ 24 := Nat.pow_le_pow_right (by decide) (by omega); omega) ?_
        rw [Nat.one_mul]
        refine kw_goto hB M_after_39 ?_
        refine kn_ior hB M_after_43 ?_
        refine kw_istore hB M_after_44 (by decide) rfl ?_
        refine kn_iinc hB M_after_46 rfl (by decide) rfl ?_
        refine kw_goto hB M_after_49 ?_
        have := ih (q + 1) (by omega)
        rw [jQs, hb] at this
        exact this
  refine kw_iconst hB M_after_0 (v := nI 0) (by decide) ?_
  refine kw_istore hB M_after_1 (by decide) rfl ?_
  refine kw_iconst hB M_after_3 (v := nI 0) (by decide) ?_
  refine kw_istore hB M_after_4 (by decide) rfl ?_
  exact loop L.1 0 (by omega)
/-- all words of some letters -/
def jNa' (S k c : Nat) : Nat := if k = 0 ∧ S.testBit (c - 1) = true then 0 else 1
set_option maxHeartbeats 4000000 in
set_option maxRecDepth 100000 in
theorem jRu_ALL {S : Nat} (hw : s 18 = nI 7) (hl : s 25 = nI (2 * S)) (hS : S < 256) : jRu l D g (fun k => k < 2) 0 (jNa' S) (fun k => decide (k = 0)) s st gd tb := by
  refine ⟨by decide, fun k c _ _ _ => by unfold jNa'; split <;> omega, fun k hk => by omega, fun X s' st' gd' tb' h hs _ _ _ => ?_⟩
  have hw' := (hs 18 (by decide) (by decide)).trans hw
  have hl' := (hs 25 (by decide) (by decide)).trans hl
  refine ⟨?_, fun k hk => ?_, fun k c hk h1 h8 => ?_⟩
  · refine ja_metK (by decide) rfl (Nat.le_of_ble_eq_true rfl) fun K hB hF => ?_
    refine kw_aload_n hB M_first_0 rfl ?_
    refine kw_getf hB M_first_1 f_M_132 h.1 rfl ?_
    rw [hw']
    refine kw_iconst hB M_first_4 (v := nI 1) (by decide) ?_
    refine kn_icmp_ne hB M_first_5 (by decide) (by decide) (fun _ => ?_) (fun z => absurd z (by decide))
    refine kw_aload_n hB M_first_14 rfl ?_
    refine kw_getf hB M_first_15 f_M_132 h.1 rfl ?_
    rw [hw']
    refine kw_iconst hB M_first_18 (v := nI 2) (by decide) ?_
    refine kn_icmp_ne hB M_first_19 (by decide) (by decide) (fun _ => ?_) (fun z => absurd z (by decide))
    refine kw_aload_n hB M_first_24 rfl ?_
    refine kw_getf hB M_first_25 f_M_132 h.1 rfl ?_
    rw [hw']
    refine kw_iconst hB M_first_28 (v := nI 3) (by decide) ?_
    refine kn_icmp_ne hB M_first_29 (by decide) (by decide) (fun _ => ?_) (fun z => absurd z (by decide))
    -- now at 48
    refine kw_iconst hB M_first_48 (v := nI 0) (by decide) ?_
    refine kw_iret hF rfl M_first_49 ?_ (by first | (simp [jLs_len]; done) | (simp [*]; done))
    exact ⟨rfl, rfl⟩
  · refine ja_metK (by decide) rfl (Nat.le_of_ble_eq_true rfl) fun K hB hF => ?_
    refine kw_aload_n hB M_mayEnd_0 rfl ?_
    refine kw_getf hB M_mayEnd_1 f_M_132 h.1 rfl ?_
    rw [hw']
    refine kn_if_ne hB M_mayEnd_4 (by decide) (fun _ => ?_) (fun z => absurd z (by decide))
    refine kw_aload_n hB M_mayEnd_39 rfl ?_
    refine kw_getf hB M_mayEnd_40 f_M_132 h.1 rfl ?_
    rw [hw']
    refine kw_iconst hB M_mayEnd_43 (v := nI 1) (by decide) ?_
    refine kn_icmp_eq hB M_mayEnd_44 (by decide) (by decide) (fun z => absurd z (by decide)) (fun _ => ?_)
    refine kw_aload_n hB M_mayEnd_47 rfl ?_
    refine kw_getf hB M_mayEnd_48 f_M_132 h.1 rfl ?_
    rw [hw']
    refine kw_iconst hB M_mayEnd_51 (v := nI 2) (by decide) ?_
    refine kn_icmp_ne hB M_mayEnd_52 (by decide) (by decide) (fun _ => ?_) (fun z => absurd z (by decide))
    refine kw_aload_n hB M_mayEnd_75 rfl ?_
    refine kw_getf hB M_mayEnd_76 f_M_132 h.1 rfl ?_
    rw [hw']
    refine kw_iconst hB M_mayEnd_79 (v := nI 3) (by decide) ?_
    refine kn_icmp_ne hB M_mayEnd_80 (by decide) (by decide) (fun _ => ?_) (fun z => absurd z (by decide))
    refine kw_aload_n hB M_mayEnd_106 rfl ?_
    refine kw_getf hB M_mayEnd_107 f_M_132 h.1 rfl ?_
    rw [hw']
    refine kw_iconst hB M_mayEnd_110 (v := nI 4) (by decide) ?_
    refine kn_icmp_ne hB M_mayEnd_111 (by decide) (by decide) (fun _ => ?_) (fun z => absurd z (by decide))
    refine kw_aload_n hB M_mayEnd_150 rfl ?_
    refine kw_getf hB M_mayEnd_151 f_M_132 h.1 rfl ?_
    rw [hw']
    refine kw_iconst hB M_mayEnd_154 (v := nI 5) (by decide) ?_
    refine kn_icmp_ne hB M_mayEnd_155 (by decide) (by decide) (fun _ => ?_) (fun z => absurd z (by decide))
    refine kw_aload_n hB M_mayEnd_197 rfl ?_
    refine kw_getf hB M_mayEnd_198 f_M_132 h.1 rfl ?_
    rw [hw']
    refine kw_bipush hB M_mayEnd_201 (v := nI 6) (by decide) ?_
    refine kn_icmp_ne hB M_mayEnd_203 (by decide) (by decide) (fun _ => ?_) (fun z => absurd z (by decide))
    refine kw_aload_n hB M_mayEnd_240 rfl ?_
    refine kw_getf hB M_mayEnd_241 f_M_132 h.1 rfl ?_
    rw [hw']
    refine kw_bipush hB M_mayEnd_244 (v := nI 7) (by decide) ?_
    refine kn_icmp_ne hB M_mayEnd_246 (by decide) (by decide) (fun z => absurd rfl z) (fun _ => ?_)
    -- now at 249
    refine kw_iload_n hB M_mayEnd_249 rfl ?_
    refine kn_if_ne hB M_mayEnd_250 (by omega) (fun z => ?_) (fun z => ?_)
    · refine kw_iconst hB M_mayEnd_257 (v := nI 0) (by decide) ?_
      refine kw_goto hB M_mayEnd_258 ?_
      refine kw_zret hF rfl (by first | rfl | decide) M_mayEnd_270 ?_ (by first | (simp [jLs_len]; done) | (simp [*]; done))
      exact ⟨by show _ = some (Value.int (nI (decide (k = 0)).toNat)); rw [decide_eq_false z]; rfl, rfl⟩
    · refine kw_iconst hB M_mayEnd_253 (v := nI 1) (by decide) ?_
      refine kw_goto hB M_mayEnd_254 ?_
      refine kw_zret hF rfl (by first | rfl | decide) M_mayEnd_270 ?_ (by first | (simp [jLs_len]; done) | (simp [*]; done))
      exact ⟨by show _ = some (Value.int (nI (decide (k = 0)).toNat)); rw [decide_eq_true z]; rfl, rfl⟩
  · refine ja_metK (by decide) rfl (Nat.le_of_ble_eq_true rfl) fun K hB hF => ?_
    refine kw_aload_n hB M_next_0 rfl ?_
    refine kw_getf hB M_next_1 f_M_132 h.1 rfl ?_
    rw [hw']
    refine kn_if_ne hB M_next_4 (by decide) (fun _ => ?_) (fun z => absurd z (by decide))
    refine kw_aload_n hB M_next_14 rfl ?_
    refine kw_getf hB M_next_15 f_M_132 h.1 rfl ?_
    rw [hw']
    refine kw_iconst hB M_next_18 (v := nI 1) (by decide) ?_
    refine kn_icmp_ne hB M_next_19 (by decide) (by decide) (fun _ => ?_) (fun z => absurd z (by decide))
    refine kw_aload_n hB M_next_52 rfl ?_
    refine kw_getf hB M_next_53 f_M_132 h.1 rfl ?_
    rw [hw']
    refine kw_iconst hB M_next_56 (v := nI 2) (by decide) ?_
    refine kn_icmp_ne hB M_next_57 (by decide) (by decide) (fun _ => ?_) (fun z => absurd z (by decide))
    refine kw_aload_n hB M_next_67 rfl ?_
    refine kw_getf hB M_next_68 f_M_132 h.1 rfl ?_
    rw [hw']
    refine kw_iconst hB M_next_71 (v := nI 3) (by decide) ?_
    refine kn_icmp_ne hB M_next_72 (by decide) (by decide) (fun _ => ?_) (fun z => absurd z (by decide))
    refine kw_aload_n hB M_next_126 rfl ?_
    refine kw_getf hB M_next_127 f_M_132 h.1 rfl ?_
    rw [hw']
    refine kw_iconst hB M_next_130 (v := nI 4) (by decide) ?_
    refine kn_icmp_ne hB M_next_131 (by decide) (by decide) (fun _ => ?_) (fun z => absurd z (by decide))
    refine kw_aload_n hB M_next_165 rfl ?_
    refine kw_getf hB M_next_166 f_M_132 h.1 rfl ?_
    rw [hw']
    refine kw_iconst hB M_next_169 (v := nI 5) (by decide) ?_
    refine kn_icmp_ne hB M_next_170 (by decide) (by decide) (fun _ => ?_) (fun z => absurd z (by decide))
    refine kw_aload_n hB M_next_197 rfl ?_
    refine kw_getf hB M_next_198 f_M_132 h.1 rfl ?_
    rw [hw']
    refine kw_bipush hB M_next_201 (v := nI 6) (by decide) ?_
    refine kn_icmp_ne hB M_next_203 (by decide) (by decide) (fun _ => ?_) (fun z => absurd z (by decide))
    refine kw_aload_n hB M_next_230 rfl ?_
    refine kw_getf hB M_next_231 f_M_132 h.1 rfl ?_
    rw [hw']
    refine kw_bipush hB M_next_234 (v := nI 7) (by decide) ?_
    refine kn_icmp_ne hB M_next_236 (by decide) (by decide) (fun z => absurd rfl z) (fun _ => ?_)
    -- now at 239
    refine kw_iload_n hB M_next_239 rfl ?_
    refine kn_if_ne hB M_next_240 (by omega) (fun z => ?_) (fun z => ?_)
    · refine kw_iconst hB M_next_259 (v := nI 1) (by decide) ?_
      refine kw_iret hF rfl M_next_260 ?_ (by first | (simp [jLs_len]; done) | (simp [*]; done))
      exact ⟨by unfold jNa'; rw [if_neg (fun q => z q.1)], rfl⟩
    · refine kw_aload_n hB M_next_243 rfl ?_
      refine kw_getf hB M_next_244 f_M_164 h.1 rfl ?_
      refine kw_iload_n hB M_next_247 rfl ?_
      rw [hl']
      refine kw_ishr hB M_next_248 ?_
      rw [jb_shr (by omega) (by omega)]
      refine kw_iconst hB M_next_249 (v := nI 1) (by decide) ?_
      refine kw_iand hB M_next_250 ?_
      rw [jb_and, Nat.and_one_is_mod, jb_bit]
      refine kw_iconst hB M_next_251 (v := nI 1) (by decide) ?_
      have hb : (2 * S).testBit c = S.testBit (c - 1) := by
        obtain ⟨d, rfl⟩ : ∃ d, c = d + 1 := ⟨c - 1, by omega⟩
        rw [Nat.testBit_succ, show 2 * S / 2 = S by omega]; rfl
      rw [hb]
      cases hbb : S.testBit (c - 1) with
      | true =>
        refine kn_icmp_ne hB M_next_252 (by decide) (by decide) (fun z => absurd rfl z) (fun _ => ?_)
        refine kw_iconst hB M_next_255 (v := nI 0) (by decide) ?_
        refine kw_goto hB M_next_256 ?_
        refine kw_iret hF rfl M_next_260 ?_ (by first | (simp [jLs_len]; done) | (simp [*]; done))
        exact ⟨by unfold jNa'; rw [if_pos ⟨z, hbb⟩], rfl⟩
      | false =>
        refine kn_icmp_ne hB M_next_252 (by decide) (by decide) (fun _ => ?_) (fun z => absurd z (by decide))
        refine kw_iconst hB M_next_259 (v := nI 1) (by decide) ?_
        refine kw_iret hF rfl M_next_260 ?_ (by first | (simp [jLs_len]; done) | (simp [*]; done))
        exact ⟨by unfold jNa'; rw [if_neg (fun q => by rw [hbb] at q; cases q.2)], rfl⟩
set_option maxHeartbeats 4000000 in
set_option maxRecDepth 100000 in
theorem jRu_SAME {p : Nat} {L : jLan} (hw : s 18 = nI 8) (hp : s 19 = nI p) (hp43 : p < 43) (hp41 : p ≠ 41) (hL : jAt st gd tb p L) : jRu l D g (fun k => k < L.1) 0 (fun k c => jXf L (k * 8 + c - 1)) (fun k => L.2.1.testBit k) s st gd tb := by
  have h24 := hL.1.2.2.1
  refine ⟨hL.1.2.1, fun k c hk h1 h8 => hL.1.2.2.2.2.1 _ (by omega), fun k hk => by omega, fun X s' st' gd' tb' h hs e1 e2 e3 => ?_⟩
  have hw' := (hs 18 (by decide) (by decide)).trans hw
  have hp' := (hs 19 (by decide) (by decide)).trans hp
  have hL' := hL.mv hp41 e1 e2 e3
  refine ⟨?_, fun k hk => ?_, fun k c hk h1 h8 => ?_⟩
  · refine ja_metK (by decide) rfl (Nat.le_of_ble_eq_true rfl) fun K hB hF => ?_
    refine kw_aload_n hB M_first_0 rfl ?_
    refine kw_getf hB M_first_1 f_M_132 h.1 rfl ?_
    rw [hw']
    refine kw_iconst hB M_first_4 (v := nI 1) (by decide) ?_
    refine kn_icmp_ne hB M_first_5 (by decide) (by decide) (fun _ => ?_) (fun z => absurd z (by decide))
    refine kw_aload_n hB M_first_14 rfl ?_
    refine kw_getf hB M_first_15 f_M_132 h.1 rfl ?_
    rw [hw']
    refine kw_iconst hB M_first_18 (v := nI 2) (by decide) ?_
    refine kn_icmp_ne hB M_first_19 (by decide) (by decide) (fun _ => ?_) (fun z => absurd z (by decide))
    refine kw_aload_n hB M_first_24 rfl ?_
    refine kw_getf hB M_first_25 f_M_132 h.1 rfl ?_
    rw [hw']
    refine kw_iconst hB M_first_28 (v := nI 3) (by decide) ?_
    refine kn_icmp_ne hB M_first_29 (by decide) (by decide) (fun _ => ?_) (fun z => absurd z (by decide))
    -- now at 48
    refine kw_iconst hB M_first_48 (v := nI 0) (by decide) ?_
    refine kw_iret hF rfl M_first_49 ?_ (by first | (simp [jLs_len]; done) | (simp [*]; done))
    exact ⟨rfl, rfl⟩
  · refine ja_metK (by decide) rfl (Nat.le_of_ble_eq_true rfl) fun K hB hF => ?_
    refine kw_aload_n hB M_mayEnd_0 rfl ?_
    refine kw_getf hB M_mayEnd_1 f_M_132 h.1 rfl ?_
    rw [hw']
    refine kn_if_ne hB M_mayEnd_4 (by decide) (fun _ => ?_) (fun z => absurd z (by decide))
    refine kw_aload_n hB M_mayEnd_39 rfl ?_
    refine kw_getf hB M_mayEnd_40 f_M_132 h.1 rfl ?_
    rw [hw']
    refine kw_iconst hB M_mayEnd_43 (v := nI 1) (by decide) ?_
    refine kn_icmp_eq hB M_mayEnd_44 (by decide) (by decide) (fun z => absurd z (by decide)) (fun _ => ?_)
    refine kw_aload_n hB M_mayEnd_47 rfl ?_
    refine kw_getf hB M_mayEnd_48 f_M_132 h.1 rfl ?_
    rw [hw']
    refine kw_iconst hB M_mayEnd_51 (v := nI 2) (by decide) ?_
    refine kn_icmp_ne hB M_mayEnd_52 (by decide) (by decide) (fun _ => ?_) (fun z => absurd z (by decide))
    refine kw_aload_n hB M_mayEnd_75 rfl ?_
    refine kw_getf hB M_mayEnd_76 f_M_132 h.1 rfl ?_
    rw [hw']
    refine kw_iconst hB M_mayEnd_79 (v := nI 3) (by decide) ?_
    refine kn_icmp_ne hB M_mayEnd_80 (by decide) (by decide) (fun _ => ?_) (fun z => absurd z (by decide))
    refine kw_aload_n hB M_mayEnd_106 rfl ?_
    refine kw_getf hB M_mayEnd_107 f_M_132 h.1 rfl ?_
    rw [hw']
    refine kw_iconst hB M_mayEnd_110 (v := nI 4) (by decide) ?_
    refine kn_icmp_ne hB M_mayEnd_111 (by decide) (by decide) (fun _ => ?_) (fun z => absurd z (by decide))
    refine kw_aload_n hB M_mayEnd_150 rfl ?_
    refine kw_getf hB M_mayEnd_151 f_M_132 h.1 rfl ?_
    rw [hw']
    refine kw_iconst hB M_mayEnd_154 (v := nI 5) (by decide) ?_
    refine kn_icmp_ne hB M_mayEnd_155 (by decide) (by decide) (fun _ => ?_) (fun z => absurd z (by decide))
    refine kw_aload_n hB M_mayEnd_197 rfl ?_
    refine kw_getf hB M_mayEnd_198 f_M_132 h.1 rfl ?_
    rw [hw']
    refine kw_bipush hB M_mayEnd_201 (v := nI 6) (by decide) ?_
    refine kn_icmp_ne hB M_mayEnd_203 (by decide) (by decide) (fun _ => ?_) (fun z => absurd z (by decide))
    refine kw_aload_n hB M_mayEnd_240 rfl ?_
    refine kw_getf hB M_mayEnd_241 f_M_132 h.1 rfl ?_
    rw [hw']
    refine kw_bipush hB M_mayEnd_244 (v := nI 7) (by decide) ?_
    refine kn_icmp_ne hB M_mayEnd_246 (by decide) (by decide) (fun _ => ?_) (fun z => absurd z (by decide))
    -- now at 261
    refine kw_aload_n hB M_mayEnd_261 rfl ?_
    refine kw_aload_n hB M_mayEnd_262 rfl ?_
    refine kw_getf hB M_mayEnd_263 f_M_123 h.1 rfl ?_
    refine kw_iload_n hB M_mayEnd_266 rfl ?_
    rw [hp']
    refine kw_callV hB M_mayEnd_267 s_M_139 im_M_takes se_M_takes h.1 rfl rfl (As := [.int (nI p), .int (nI k)]) (c_M_takes l D g h hL' hp43 (by omega)) rfl (by decide) (Nat.le_of_ble_eq_true rfl) (by omega) (by omega) (fun r X1 hq hl => ?_)
    obtain ⟨rfl, hxeq⟩ := hq
    obtain rfl := hxeq.symm
    refine kw_zret hF rfl (by cases L.2.1.testBit k <;> decide) M_mayEnd_270 ⟨rfl, rfl⟩ (by simp)
  · refine ja_metK (by decide) rfl (Nat.le_of_ble_eq_true rfl) fun K hB hF => ?_
    refine kw_aload_n hB M_next_0 rfl ?_
    refine kw_getf hB M_next_1 f_M_132 h.1 rfl ?_
    rw [hw']
    refine kn_if_ne hB M_next_4 (by decide) (fun _ => ?_) (fun z => absurd z (by decide))
    refine kw_aload_n hB M_next_14 rfl ?_
    refine kw_getf hB M_next_15 f_M_132 h.1 rfl ?_
    rw [hw']
    refine kw_iconst hB M_next_18 (v := nI 1) (by decide) ?_
    refine kn_icmp_ne hB M_next_19 (by decide) (by decide) (fun _ => ?_) (fun z => absurd z (by decide))
    refine kw_aload_n hB M_next_52 rfl ?_
    refine kw_getf hB M_next_53 f_M_132 h.1 rfl ?_
    rw [hw']
    refine kw_iconst hB M_next_56 (v := nI 2) (by decide) ?_
    refine kn_icmp_ne hB M_next_57 (by decide) (by decide) (fun _ => ?_) (fun z => absurd z (by decide))
    refine kw_aload_n hB M_next_67 rfl ?_
    refine kw_getf hB M_next_68 f_M_132 h.1 rfl ?_
    rw [hw']
    refine kw_iconst hB M_next_71 (v := nI 3) (by decide) ?_
    refine kn_icmp_ne hB M_next_72 (by decide) (by decide) (fun _ => ?_) (fun z => absurd z (by decide))
    refine kw_aload_n hB M_next_126 rfl ?_
    refine kw_getf hB M_next_127 f_M_132 h.1 rfl ?_
    rw [hw']
    refine kw_iconst hB M_next_130 (v := nI 4) (by decide) ?_
    refine kn_icmp_ne hB M_next_131 (by decide) (by decide) (fun _ => ?_) (fun z => absurd z (by decide))
    refine kw_aload_n hB M_next_165 rfl ?_
    refine kw_getf hB M_next_166 f_M_132 h.1 rfl ?_
    rw [hw']
    refine kw_iconst hB M_next_169 (v := nI 5) (by decide) ?_
    refine kn_icmp_ne hB M_next_170 (by decide) (by decide) (fun _ => ?_) (fun z => absurd z (by decide))
    refine kw_aload_n hB M_next_197 rfl ?_
    refine kw_getf hB M_next_198 f_M_132 h.1 rfl ?_
    rw [hw']
    refine kw_bipush hB M_next_201 (v := nI 6) (by decide) ?_
    refine kn_icmp_ne hB M_next_203 (by decide) (by decide) (fun _ => ?_) (fun z => absurd z (by decide))
    refine kw_aload_n hB M_next_230 rfl ?_
    refine kw_getf hB M_next_231 f_M_132 h.1 rfl ?_
    rw [hw']
    refine kw_bipush hB M_next_234 (v := nI 7) (by decide) ?_
    refine kn_icmp_ne hB M_next_236 (by decide) (by decide) (fun _ => ?_) (fun z => absurd z (by decide))
    -- now at 261
    refine kw_aload_n hB M_next_261 rfl ?_
    refine kw_aload_n hB M_next_262 rfl ?_
    refine kw_getf hB M_next_263 f_M_123 h.1 rfl ?_
    refine kw_iload_n hB M_next_266 rfl ?_
    refine kw_iload_n hB M_next_267 rfl ?_
    rw [hp']
    refine kw_callV hB M_next_268 s_M_119 im_M_step se_M_step h.1 rfl rfl (As := [.int (nI p), .int (nI k), .int (nI c)]) (c_M_step l D g h hL' hp43 hk h1 h8) rfl (by decide) (Nat.le_of_ble_eq_true rfl) (by omega) (by omega) (fun r X1 hq hl => ?_)
    obtain ⟨rfl, hxeq⟩ := hq
    obtain rfl := hxeq.symm
    refine kw_iret hF rfl M_next_271 ⟨rfl, rfl⟩ (by simp)
set_option maxHeartbeats 4000000 in
set_option maxRecDepth 100000 in
theorem jRu_EITHER {p q : Nat} {A B : jLan} (hw : s 18 = nI 4) (hp : s 19 = nI p) (hq : s 20 = nI q) (hp43 : p < 43) (hp41 : p ≠ 41) (hq43 : q < 43) (hq41 : q ≠ 41) (hA : jAt st gd tb p A) (hBL : jAt st gd tb q B) : jRu l D g (fun k => k / 24 < A.1 ∧ k % 24 < B.1) 0 (jPn (jXf A) (jXf B)) (jPg A.2.1 B.2.1 0) s st gd tb := by
  have hA24 := hA.1.2.2.1
  have hB24 := hBL.1.2.2.1
  have hA1 := hA.1.2.1
  have hB1 := hBL.1.2.1
  refine ⟨⟨by omega, by omega⟩, fun k c hk h1 h8 => ?_, fun k hk => by omega, fun X s' st' gd' tb' h hs e1 e2 e3 => ?_⟩
  · have a1 := hA.1.2.2.2.2.1 (k / 24 * 8 + c - 1) (by omega)
    have a2 := hBL.1.2.2.2.2.1 (k % 24 * 8 + c - 1) (by omega)
    unfold jPn
    omega
  have hw' := (hs 18 (by decide) (by decide)).trans hw
  have hp' := (hs 19 (by decide) (by decide)).trans hp
  have hq' := (hs 20 (by decide) (by decide)).trans hq
  have hA' := hA.mv hp41 e1 e2 e3
  have hB' := hBL.mv hq41 e1 e2 e3
  refine ⟨?_, fun k hk => ?_, fun k c hk h1 h8 => ?_⟩
  · refine ja_metK (by decide) rfl (Nat.le_of_ble_eq_true rfl) fun K hB hF => ?_
    refine kw_aload_n hB M_first_0 rfl ?_
    refine kw_getf hB M_first_1 f_M_132 h.1 rfl ?_
    rw [hw']
    refine kw_iconst hB M_first_4 (v := nI 1) (by decide) ?_
    refine kn_icmp_ne hB M_first_5 (by decide) (by decide) (fun _ => ?_) (fun z => absurd z (by decide))
    refine kw_aload_n hB M_first_14 rfl ?_
    refine kw_getf hB M_first_15 f_M_132 h.1 rfl ?_
    rw [hw']
    refine kw_iconst hB M_first_18 (v := nI 2) (by decide) ?_
    refine kn_icmp_ne hB M_first_19 (by decide) (by decide) (fun _ => ?_) (fun z => absurd z (by decide))
    refine kw_aload_n hB M_first_24 rfl ?_
    refine kw_getf hB M_first_25 f_M_132 h.1 rfl ?_
    rw [hw']
    refine kw_iconst hB M_first_28 (v := nI 3) (by decide) ?_
    refine kn_icmp_ne hB M_first_29 (by decide) (by decide) (fun _ => ?_) (fun z => absurd z (by decide))
    -- now at 48
    refine kw_iconst hB M_first_48 (v := nI 0) (by decide) ?_
    refine kw_iret hF rfl M_first_49 ?_ (by first | (simp [jLs_len]; done) | (simp [*]; done))
    exact ⟨rfl, rfl⟩
  · refine ja_metK (by decide) rfl (Nat.le_of_ble_eq_true rfl) fun K hB hF => ?_
    have hk15 : k < 2 ^ 31 := by omega
    have hpg : jPg A.2.1 B.2.1 0 k = (A.2.1.testBit (k / 24) || B.2.1.testBit (k % 24)) := rfl
    refine kw_aload_n hB M_mayEnd_0 rfl ?_
    refine kw_getf hB M_mayEnd_1 f_M_132 h.1 rfl ?_
    rw [hw']
    refine kn_if_ne hB M_mayEnd_4 (by decide) (fun _ => ?_) (fun z => absurd z (by decide))
    refine kw_aload_n hB M_mayEnd_39 rfl ?_
    refine kw_getf hB M_mayEnd_40 f_M_132 h.1 rfl ?_
    rw [hw']
    refine kw_iconst hB M_mayEnd_43 (v := nI 1) (by decide) ?_
    refine kn_icmp_eq hB M_mayEnd_44 (by decide) (by decide) (fun z => absurd z (by decide)) (fun _ => ?_)
    refine kw_aload_n hB M_mayEnd_47 rfl ?_
    refine kw_getf hB M_mayEnd_48 f_M_132 h.1 rfl ?_
    rw [hw']
    refine kw_iconst hB M_mayEnd_51 (v := nI 2) (by decide) ?_
    refine kn_icmp_ne hB M_mayEnd_52 (by decide) (by decide) (fun _ => ?_) (fun z => absurd z (by decide))
    refine kw_aload_n hB M_mayEnd_75 rfl ?_
    refine kw_getf hB M_mayEnd_76 f_M_132 h.1 rfl ?_
    rw [hw']
    refine kw_iconst hB M_mayEnd_79 (v := nI 3) (by decide) ?_
    refine kn_icmp_ne hB M_mayEnd_80 (by decide) (by decide) (fun _ => ?_) (fun z => absurd z (by decide))
    refine kw_aload_n hB M_mayEnd_106 rfl ?_
    refine kw_getf hB M_mayEnd_107 f_M_132 h.1 rfl ?_
    rw [hw']
    refine kw_iconst hB M_mayEnd_110 (v := nI 4) (by decide) ?_
    refine kn_icmp_ne hB M_mayEnd_111 (by decide) (by decide) (fun z => absurd rfl z) (fun _ => ?_)
    -- now at 114
    refine kw_aload_n hB M_mayEnd_114 rfl ?_
    refine kw_aload_n hB M_mayEnd_115 rfl ?_
    refine kw_getf hB M_mayEnd_116 f_M_123 h.1 rfl ?_
    refine kw_iload_n hB M_mayEnd_119 rfl ?_
    refine kw_bipush hB M_mayEnd_120 (v := nI 24) (by decide) ?_
    refine kn_idiv hB M_mayEnd_122 (by omega) (by decide) (by decide) ?_
    rw [hp']
    refine kw_callV hB M_mayEnd_123 s_M_139 im_M_takes se_M_takes h.1 rfl rfl (As := [.int (nI p), .int (nI (k / 24))]) (c_M_takes l D g h hA' hp43 (by omega)) rfl (by decide) (Nat.le_of_ble_eq_true rfl) (by omega) (by omega) (fun r X1 hq hl => ?_)
    obtain ⟨rfl, hxeq⟩ := hq
    obtain rfl := hxeq.symm
    refine kn_if_ne hB M_mayEnd_126 (by cases A.2.1.testBit (k / 24) <;> decide) (fun z => ?_) (fun z => ?_)
    · refine kw_iconst hB M_mayEnd_144 (v := nI 1) (by decide) ?_
      refine kw_goto hB M_mayEnd_145 ?_
      refine kw_zret hF rfl (by first | rfl | decide) M_mayEnd_149 ?_ (by first | (simp [jLs_len]; done) | (simp [*]; done))
      exact ⟨by rw [hpg, jb_t z]; rfl, rfl⟩
    · refine kw_aload_n hB M_mayEnd_129 rfl ?_
      refine kw_aload_n hB M_mayEnd_130 rfl ?_
      refine kw_getf hB M_mayEnd_131 f_M_155 h.1 rfl ?_
      refine kw_iload_n hB M_mayEnd_134 rfl ?_
      refine kw_bipush hB M_mayEnd_135 (v := nI 24) (by decide) ?_
      refine kn_irem hB M_mayEnd_137 (by omega) (by decide) (by decide) ?_
      rw [hq']
      refine kw_callV hB M_mayEnd_138 s_M_139 im_M_takes se_M_takes h.1 rfl rfl (As := [.int (nI q), .int (nI (k % 24))]) (c_M_takes l D g h hB' hq43 (by omega)) rfl (by decide) (Nat.le_of_ble_eq_true rfl) (by omega) (by omega) (fun r X1 hq hl => ?_)
      obtain ⟨rfl, hxeq⟩ := hq
      obtain rfl := hxeq.symm
      refine kn_if_eq hB M_mayEnd_141 (by cases B.2.1.testBit (k % 24) <;> decide) (fun z2 => ?_) (fun z2 => ?_)
      · refine kw_iconst hB M_mayEnd_148 (v := nI 0) (by decide) ?_
        refine kw_zret hF rfl (by first | rfl | decide) M_mayEnd_149 ?_ (by first | (simp [jLs_len]; done) | (simp [*]; done))
        exact ⟨by rw [hpg, jb_f z, jb_f z2]; rfl, rfl⟩
      · refine kw_iconst hB M_mayEnd_144 (v := nI 1) (by decide) ?_
        refine kw_goto hB M_mayEnd_145 ?_
        refine kw_zret hF rfl (by first | rfl | decide) M_mayEnd_149 ?_ (by first | (simp [jLs_len]; done) | (simp [*]; done))
        exact ⟨by rw [hpg, jb_f z, jb_t z2]; rfl, rfl⟩
  · refine ja_metK (by decide) rfl (Nat.le_of_ble_eq_true rfl) fun K hB hF => ?_
    have hk15 : k < 2 ^ 31 := by omega
    refine kw_aload_n hB M_next_0 rfl ?_
    refine kw_getf hB M_next_1 f_M_132 h.1 rfl ?_
    rw [hw']
    refine kn_if_ne hB M_next_4 (by decide) (fun _ => ?_) (fun z => absurd z (by decide))
    refine kw_aload_n hB M_next_14 rfl ?_
    refine kw_getf hB M_next_15 f_M_132 h.1 rfl ?_
    rw [hw']
    refine kw_iconst hB M_next_18 (v := nI 1) (by decide) ?_
    refine kn_icmp_ne hB M_next_19 (by decide) (by decide) (fun _ => ?_) (fun z => absurd z (by decide))
    refine kw_aload_n hB M_next_52 rfl ?_
    refine kw_getf hB M_next_53 f_M_132 h.1 rfl ?_
    rw [hw']
    refine kw_iconst hB M_next_56 (v := nI 2) (by decide) ?_
    refine kn_icmp_ne hB M_next_57 (by decide) (by decide) (fun _ => ?_) (fun z => absurd z (by decide))
    refine kw_aload_n hB M_next_67 rfl ?_
    refine kw_getf hB M_next_68 f_M_132 h.1 rfl ?_
    rw [hw']
    refine kw_iconst hB M_next_71 (v := nI 3) (by decide) ?_
    refine kn_icmp_ne hB M_next_72 (by decide) (by decide) (fun _ => ?_) (fun z => absurd z (by decide))
    refine kw_aload_n hB M_next_126 rfl ?_
    refine kw_getf hB M_next_127 f_M_132 h.1 rfl ?_
    rw [hw']
    refine kw_iconst hB M_next_130 (v := nI 4) (by decide) ?_
    refine kn_icmp_ne hB M_next_131 (by decide) (by decide) (fun z => absurd rfl z) (fun _ => ?_)
    -- now at 134
    refine kw_bipush hB M_next_134 (v := nI 24) (by decide) ?_
    refine kw_aload_n hB M_next_136 rfl ?_
    refine kw_aload_n hB M_next_137 rfl ?_
    refine kw_getf hB M_next_138 f_M_123 h.1 rfl ?_
    refine kw_iload_n hB M_next_141 rfl ?_
    refine kw_bipush hB M_next_142 (v := nI 24) (by decide) ?_
    refine kn_idiv hB M_next_144 (by omega) (by decide) (by decide) ?_
    refine kw_iload_n hB M_next_145 rfl ?_
    rw [hp']
    refine kw_callV hB M_next_146 s_M_119 im_M_step se_M_step h.1 rfl rfl (As := [.int (nI p), .int (nI (k / 24)), .int (nI c)]) (c_M_step l D g h hA' hp43 hk.1 h1 h8) rfl (by decide) (Nat.le_of_ble_eq_true rfl) (by omega) (by omega) (fun r X1 hq hl => ?_)
    obtain ⟨rfl, hxeq⟩ := hq
    obtain rfl := hxeq.symm
    refine kn_imul hB M_next_149 ?_
    refine kw_aload_n hB M_next_150 rfl ?_
    refine kw_aload_n hB M_next_151 rfl ?_
    refine kw_getf hB M_next_152 f_M_155 h.1 rfl ?_
    refine kw_iload_n hB M_next_155 rfl ?_
    refine kw_bipush hB M_next_156 (v := nI 24) (by decide) ?_
    refine kn_irem hB M_next_158 (by omega) (by decide) (by decide) ?_
    refine kw_iload_n hB M_next_159 rfl ?_
    rw [hq']
    refine kw_callV hB M_next_160 s_M_119 im_M_step se_M_step h.1 rfl rfl (As := [.int (nI q), .int (nI (k % 24)), .int (nI c)]) (c_M_step l D g h hB' hq43 hk.2 h1 h8) rfl (by decide) (Nat.le_of_ble_eq_true rfl) (by omega) (by omega) (fun r X1 hq hl => ?_)
    obtain ⟨rfl, hxeq⟩ := hq
    obtain rfl := hxeq.symm
    refine kn_iadd hB M_next_163 ?_
    refine kw_iret hF rfl M_next_164 ⟨by unfold jPn; rw [Nat.mul_comm 24], rfl⟩ (by simp)
theorem jQs_mod (x : Nat → Nat) (S c : Nat) : ∀ m, m ≤ 6 → jQs x (S % 64) c m = jQs x S c m
  | 0, _ => rfl
  | m + 1, h => by
    rw [jQs, jQs, jQs_mod x S c m (by omega)]
    have : (S % 64).testBit m = S.testBit m := by
      rw [show 64 = 2 ^ 6 from rfl, Nat.testBit_mod_two_pow, decide_eq_true (show m < 6 by omega), Bool.true_and]
    rw [this]
set_option maxHeartbeats 4000000 in
set_option maxRecDepth 100000 in
theorem jRu_THEN {p q : Nat} {A B : jLan} (hw : s 18 = nI 3) (hp : s 19 = nI p) (hq : s 20 = nI q) (hp43 : p < 43) (hp41 : p ≠ 41) (hq43 : q < 43) (hq41 : q ≠ 41) (hA : jAt st gd tb p A) (hBL : jAt st gd tb q B) (hB6 : B.1 ≤ 6) : jRu l D g (fun k => k / 64 < A.1) (jQk A.2.1 0 0) (jQn (jXf A) (jXf B) A.2.1 B.1) (fun k => decide (B.2.1 &&& (k % 64) ≠ 0)) s st gd tb := by
  have hA24 := hA.1.2.2.1
  have hA1 := hA.1.2.1
  have hGB : B.2.1 < 2 ^ 24 := Nat.lt_of_lt_of_le hBL.1.2.2.2.1 (Nat.pow_le_pow_right (by decide) hBL.1.2.2.1)
  have qs : ∀ k c, 1 ≤ c → c ≤ 8 → jQs (jXf B) k c B.1 < 64 := fun k c h1 h8 => Nat.lt_of_lt_of_le (jQs_lt (b := B.1) (fun q hq => hBL.1.2.2.2.2.1 _ (by omega)) B.1 (Nat.le_refl _)) (Nat.pow_le_pow_right (n := 2) (by decide) hB6)
  have hkk : ∀ u S, u < A.1 → S < 64 → jQk A.2.1 u S / 64 < A.1 := fun u S hu hS => by
    have h1 : S ||| 1 < 2 ^ 6 := Nat.or_lt_two_pow hS (by decide)
    unfold jQk
    split <;> omega
  refine ⟨hkk 0 0 (by omega) (by decide), fun k c hk h1 h8 => hkk _ _ (hA.1.2.2.2.2.1 _ (by omega)) (qs k c h1 h8), fun k hk => by omega, fun X s' st' gd' tb' h hs e1 e2 e3 => ?_⟩
  have hw' := (hs 18 (by decide) (by decide)).trans hw
  have hp' := (hs 19 (by decide) (by decide)).trans hp
  have hq' := (hs 20 (by decide) (by decide)).trans hq
  have hA' := hA.mv hp41 e1 e2 e3
  have hB' := hBL.mv hq41 e1 e2 e3
  refine ⟨?_, fun k hk => ?_, fun k c hk h1 h8 => ?_⟩
  · refine ja_metK (by decide) rfl (Nat.le_of_ble_eq_true rfl) fun K hB hF => ?_
    refine kw_aload_n hB M_first_0 rfl ?_
    refine kw_getf hB M_first_1 f_M_132 h.1 rfl ?_
    rw [hw']
    refine kw_iconst hB M_first_4 (v := nI 1) (by decide) ?_
    refine kn_icmp_ne hB M_first_5 (by decide) (by decide) (fun _ => ?_) (fun z => absurd z (by decide))
    refine kw_aload_n hB M_first_14 rfl ?_
    refine kw_getf hB M_first_15 f_M_132 h.1 rfl ?_
    rw [hw']
    refine kw_iconst hB M_first_18 (v := nI 2) (by decide) ?_
    refine kn_icmp_ne hB M_first_19 (by decide) (by decide) (fun _ => ?_) (fun z => absurd z (by decide))
    refine kw_aload_n hB M_first_24 rfl ?_
    refine kw_getf hB M_first_25 f_M_132 h.1 rfl ?_
    rw [hw']
    refine kw_iconst hB M_first_28 (v := nI 3) (by decide) ?_
    refine kn_icmp_ne hB M_first_29 (by decide) (by decide) (fun z => absurd rfl z) (fun _ => ?_)
    -- now at 32
    refine kw_aload_n hB M_first_32 rfl ?_
    refine kw_aload_n hB M_first_33 rfl ?_
    refine kw_getf hB M_first_34 f_M_123 h.1 rfl ?_
    refine kw_iconst hB M_first_37 (v := nI 0) (by decide) ?_
    rw [hp']
    refine kw_callV hB M_first_38 s_M_139 im_M_takes se_M_takes h.1 rfl rfl (As := [.int (nI p), .int (nI 0)]) (c_M_takes l D g h hA' hp43 (by decide)) rfl (by decide) (Nat.le_of_ble_eq_true rfl) (by omega) (by omega) (fun r X1 hq hl => ?_)
    obtain ⟨rfl, hxeq⟩ := hq
    obtain rfl := hxeq.symm
    refine kn_if_eq hB M_first_41 (by cases A.2.1.testBit 0 <;> decide) (fun z => ?_) (fun z => ?_)
    · refine kw_iconst hB M_first_48 (v := nI 0) (by decide) ?_
      refine kw_iret hF rfl M_first_49 ?_ (by first | (simp [jLs_len]; done) | (simp [*]; done))
      exact ⟨by unfold jQk; rw [jb_f z]; rfl, rfl⟩
    · refine kw_iconst hB M_first_44 (v := nI 1) (by decide) ?_
      refine kw_goto hB M_first_45 ?_
      refine kw_iret hF rfl M_first_49 ?_ (by first | (simp [jLs_len]; done) | (simp [*]; done))
      exact ⟨by unfold jQk; rw [jb_t z]; rfl, rfl⟩
  · refine ja_metK (by decide) rfl (Nat.le_of_ble_eq_true rfl) fun K hB hF => ?_
    have hk15 : k < 2 ^ 31 := by omega
    refine kw_aload_n hB M_mayEnd_0 rfl ?_
    refine kw_getf hB M_mayEnd_1 f_M_132 h.1 rfl ?_
    rw [hw']
    refine kn_if_ne hB M_mayEnd_4 (by decide) (fun _ => ?_) (fun z => absurd z (by decide))
    refine kw_aload_n hB M_mayEnd_39 rfl ?_
    refine kw_getf hB M_mayEnd_40 f_M_132 h.1 rfl ?_
    rw [hw']
    refine kw_iconst hB M_mayEnd_43 (v := nI 1) (by decide) ?_
    refine kn_icmp_eq hB M_mayEnd_44 (by decide) (by decide) (fun z => absurd z (by decide)) (fun _ => ?_)
    refine kw_aload_n hB M_mayEnd_47 rfl ?_
    refine kw_getf hB M_mayEnd_48 f_M_132 h.1 rfl ?_
    rw [hw']
    refine kw_iconst hB M_mayEnd_51 (v := nI 2) (by decide) ?_
    refine kn_icmp_ne hB M_mayEnd_52 (by decide) (by decide) (fun _ => ?_) (fun z => absurd z (by decide))
    refine kw_aload_n hB M_mayEnd_75 rfl ?_
    refine kw_getf hB M_mayEnd_76 f_M_132 h.1 rfl ?_
    rw [hw']
    refine kw_iconst hB M_mayEnd_79 (v := nI 3) (by decide) ?_
    refine kn_icmp_ne hB M_mayEnd_80 (by decide) (by decide) (fun z => absurd rfl z) (fun _ => ?_)
    -- now at 83
    refine kw_iload_n hB M_mayEnd_83 rfl ?_
    refine kw_bipush hB M_mayEnd_84 (v := nI 64) (by decide) ?_
    refine kn_irem hB M_mayEnd_86 (by omega) (by decide) (by decide) ?_
    refine kw_aload_n hB M_mayEnd_87 rfl ?_
    refine kw_getf hB M_mayEnd_88 f_M_40 h.1 rfl ?_
    refine kw_aload_n hB M_mayEnd_91 rfl ?_
    refine kw_getf hB M_mayEnd_92 f_M_155 h.1 rfl ?_
    rw [hq']
    refine kn_iald hB M_mayEnd_95 h.2.2.1 rfl hq43 (by decide) ?_
    rw [hB'.2.2.1]
    refine kn_iand hB M_mayEnd_96 ?_
    rw [Nat.and_comm]
    have hlt : B.2.1 &&& (k % 64) < 2 ^ 31 := by have : B.2.1 &&& (k % 64) ≤ k % 64 := Nat.and_le_right; omega
    refine kn_if_eq hB M_mayEnd_97 (by omega) (fun z => ?_) (fun z => ?_)
    · refine kw_iconst hB M_mayEnd_104 (v := nI 0) (by decide) ?_
      refine kw_zret hF rfl (by first | rfl | decide) M_mayEnd_105 ?_ (by first | (simp [jLs_len]; done) | (simp [*]; done))
      exact ⟨by show _ = some (Value.int (nI (decide (B.2.1 &&& (k % 64) ≠ 0)).toNat)); rw [decide_eq_false (fun q => q z)]; rfl, rfl⟩
    · refine kw_iconst hB M_mayEnd_100 (v := nI 1) (by decide) ?_
      refine kw_goto hB M_mayEnd_101 ?_
      refine kw_zret hF rfl (by first | rfl | decide) M_mayEnd_105 ?_ (by first | (simp [jLs_len]; done) | (simp [*]; done))
      exact ⟨by show _ = some (Value.int (nI (decide (B.2.1 &&& (k % 64) ≠ 0)).toNat)); rw [decide_eq_true z]; rfl, rfl⟩
  · refine ja_metK (by decide) rfl (Nat.le_of_ble_eq_true rfl) fun K hB hF => ?_
    have hk15 : k < 2 ^ 31 := by omega
    have ha := hA.1.2.2.2.2.1 (k / 64 * 8 + c - 1) (by omega)
    refine kw_aload_n hB M_next_0 rfl ?_
    refine kw_getf hB M_next_1 f_M_132 h.1 rfl ?_
    rw [hw']
    refine kn_if_ne hB M_next_4 (by decide) (fun _ => ?_) (fun z => absurd z (by decide))
    refine kw_aload_n hB M_next_14 rfl ?_
    refine kw_getf hB M_next_15 f_M_132 h.1 rfl ?_
    rw [hw']
    refine kw_iconst hB M_next_18 (v := nI 1) (by decide) ?_
    refine kn_icmp_ne hB M_next_19 (by decide) (by decide) (fun _ => ?_) (fun z => absurd z (by decide))
    refine kw_aload_n hB M_next_52 rfl ?_
    refine kw_getf hB M_next_53 f_M_132 h.1 rfl ?_
    rw [hw']
    refine kw_iconst hB M_next_56 (v := nI 2) (by decide) ?_
    refine kn_icmp_ne hB M_next_57 (by decide) (by decide) (fun _ => ?_) (fun z => absurd z (by decide))
    refine kw_aload_n hB M_next_67 rfl ?_
    refine kw_getf hB M_next_68 f_M_132 h.1 rfl ?_
    rw [hw']
    refine kw_iconst hB M_next_71 (v := nI 3) (by decide) ?_
    refine kn_icmp_ne hB M_next_72 (by decide) (by decide) (fun z => absurd rfl z) (fun _ => ?_)
    -- now at 75
    refine kw_aload_n hB M_next_75 rfl ?_
    refine kw_aload_n hB M_next_76 rfl ?_
    refine kw_getf hB M_next_77 f_M_123 h.1 rfl ?_
    refine kw_iload_n hB M_next_80 rfl ?_
    refine kw_bipush hB M_next_81 (v := nI 64) (by decide) ?_
    refine kn_idiv hB M_next_83 (by omega) (by decide) (by decide) ?_
    refine kw_iload_n hB M_next_84 rfl ?_
    rw [hp']
    refine kw_callV hB M_next_85 s_M_119 im_M_step se_M_step h.1 rfl rfl (As := [.int (nI p), .int (nI (k / 64)), .int (nI c)]) (c_M_step l D g h hA' hp43 hk h1 h8) rfl (by decide) (Nat.le_of_ble_eq_true rfl) (by omega) (by omega) (fun r X1 hq hl => ?_)
    obtain ⟨rfl, hxeq⟩ := hq
    obtain rfl := hxeq.symm
    refine kw_istore_n hB M_next_88 rfl (by decide) rfl ?_
    refine kw_bipush hB M_next_89 (v := nI 64) (by decide) ?_
    refine kw_iload_n hB M_next_91 rfl ?_
    refine kn_imul hB M_next_92 ?_
    refine kw_aload_n hB M_next_93 rfl ?_
    refine kw_aload_n hB M_next_94 rfl ?_
    refine kw_getf hB M_next_95 f_M_155 h.1 rfl ?_
    refine kw_iload_n hB M_next_98 rfl ?_
    refine kw_bipush hB M_next_99 (v := nI 64) (by decide) ?_
    refine kn_irem hB M_next_101 (by omega) (by decide) (by decide) ?_
    refine kw_iload_n hB M_next_102 rfl ?_
    rw [hq']
    refine kw_callV hB M_next_103 s_M_126 im_M_after se_M_after h.1 rfl rfl (As := [.int (nI q), .int (nI (k % 64)), .int (nI c)]) (c_M_after l D g h hB' hq43 (by omega) h1 h8) rfl (by decide) (Nat.le_of_ble_eq_true rfl) (by omega) (by omega) (fun r X1 hq hl => ?_)
    obtain ⟨rfl, hxeq⟩ := hq
    obtain rfl := hxeq.symm
    rw [jQs_mod _ _ _ _ hB6]
    refine kw_aload_n hB M_next_106 rfl ?_
    refine kw_aload_n hB M_next_107 rfl ?_
    refine kw_getf hB M_next_108 f_M_123 h.1 rfl ?_
    refine kw_iload_n hB M_next_111 rfl ?_
    rw [hp']
    refine kw_callV hB M_next_112 s_M_139 im_M_takes se_M_takes h.1 rfl rfl (As := [.int (nI p), .int (nI (jXf A (k / 64 * 8 + c - 1)))]) (c_M_takes l D g h hA' hp43 (by omega)) rfl (by decide) (Nat.le_of_ble_eq_true rfl) (by omega) (by omega) (fun r X1 hq hl => ?_)
    obtain ⟨rfl, hxeq⟩ := hq
    obtain rfl := hxeq.symm
    refine kn_if_eq hB M_next_115 (by cases A.2.1.testBit (jXf A (k / 64 * 8 + c - 1)) <;> decide) (fun z => ?_) (fun z => ?_)
    · refine kw_iconst hB M_next_122 (v := nI 0) (by decide) ?_
      refine kn_ior hB M_next_123 ?_
      refine kn_iadd hB M_next_124 ?_
      refine kw_iret hF rfl M_next_125 ⟨?_, rfl⟩ (by simp)
      unfold jQn jQk
      rw [jb_f z, Nat.or_zero, Nat.mul_comm 64]
      rfl
    · refine kw_iconst hB M_next_118 (v := nI 1) (by decide) ?_
      refine kw_goto hB M_next_119 ?_
      refine kn_ior hB M_next_123 ?_
      refine kn_iadd hB M_next_124 ?_
      refine kw_iret hF rfl M_next_125 ⟨?_, rfl⟩ (by simp)
      unfold jQn jQk
      rw [jb_t z, Nat.mul_comm 64]
      rfl
end JML
