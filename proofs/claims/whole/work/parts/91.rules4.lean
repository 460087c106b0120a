-- the model: the rule WORD
theorem jneg : ∀ n, n < 8 → ∀ k, k < 8 → n ≤ k → nI n - nI 1 - nI k ≤ nI 0 := by decide +kernel
/-- the k-th letter of a constant, or 0 -/
def jdl (a k : Nat) : Nat := if k < jlen a then 2 * jdig a (jlen a) k - 1 else 0
section JML4
variable (l : Launch) (D : va_G) (g : Nat × Nat) {X : ja_H} {s st gd tb : Nat → Int32}
set_option maxHeartbeats 4000000 in
set_option maxRecDepth 100000 in
theorem c_M_digit {a k : Nat} (h : jTr X s st gd tb) (hw : s 24 = nI a) (ha : a < 2 ^ 24) (hd : jdg 4 a) (hk : k < 7) : AMet l D g 0 0 0 m_M_digit [.ref 145, .int (nI k)] X (fun r X' => r = some (.int (nI (jdl a k))) ∧ X' = X) := by
  have hN : jlen a ≤ 6 := jlen_le (by have : (16 : Nat) ^ 6 = 2 ^ 24 := by decide
                                      omega)
  have hdiv : ∀ j, a / 16 ^ j < 2 ^ 31 := fun j => by have := Nat.div_le_self a (16 ^ j); omega
  have hstep : ∀ j, a / 16 ^ j / 16 = a / 16 ^ (j + 1) := fun j => by rw [Nat.div_div_eq_div_mul, ← Nat.pow_succ]
  refine ja_metK (by decide) rfl (Nat.le_of_ble_eq_true rfl) fun K hB hF => ?_
  have b51 : ∀ (j : Nat) (u : Value), (k < jlen a → j = jlen a - 1 - k) → K 51 [.ref 145, .int (nI k), .int (nI (jlen a)), .int (nI (a / 16 ^ j)), u] [] X 0 0 := by
    intro j u hj
    refine kw_iload_n hB M_digit_51 rfl ?_
    refine kw_iload_n hB M_digit_52 rfl ?_
    refine kn_icmp_lt hB M_digit_53 (by omega) (by omega) (fun hc => ?_) (fun hc => ?_)
    · have e := hj hc
      have hdig := jdg_dig hd hc
      have hdd : a / 16 ^ j % 16 = jdig a (jlen a) k := by unfold jdig; rw [e]
      have := hdiv j
      refine kw_iconst hB M_digit_60 (v := nI 2) (by decide) ?_
      refine kw_iload_n hB M_digit_61 rfl ?_
      refine kw_bipush hB M_digit_62 (v := nI 16) (by decide) ?_
      refine kn_irem hB M_digit_64 (by omega) (by decide) (by decide) ?_
      refine kn_imul hB M_digit_65 ?_
      rw [hdd]
      refine kw_iconst hB M_digit_66 (v := nI 1) (by decide) ?_
      refine kn_isub hB M_digit_67 (by omega) ?_
      refine kw_iret hF rfl M_digit_68 ⟨by unfold jdl; rw [if_pos hc], rfl⟩ (by simp)
    · refine kw_iconst hB M_digit_56 (v := nI 0) (by decide) ?_
      refine kw_goto hB M_digit_57 ?_
      refine kw_iret hF rfl M_digit_68 ⟨by unfold jdl; rw [if_neg (by omega)], rfl⟩ (by simp)
  have down : ∀ p j, k < jlen a → j + p = jlen a - 1 - k → K 30 [.ref 145, .int (nI k), .int (nI (jlen a)), .int (nI (a / 16 ^ j)), .int (nI j)] [] X 0 0 := by
    intro p
    induction p with
    | zero =>
      intro j hkn hj
      refine kw_iload hB M_digit_30 rfl ?_
      refine kw_iload_n hB M_digit_32 rfl ?_
      refine kw_iconst hB M_digit_33 (v := nI 1) (by decide) ?_
      refine kn_isub hB M_digit_34 (by omega) ?_
      refine kw_iload_n hB M_digit_35 rfl ?_
      refine kn_isub hB M_digit_36 (by omega) ?_
      refine kn_icmp_ge hB M_digit_37 (by omega) (by omega) (fun _ => ?_) (fun z => absurd z (by omega))
      exact b51 j _ (fun _ => by omega)
    | succ p ih =>
      intro j hkn hj
      have := hdiv j
      refine kw_iload hB M_digit_30 rfl ?_
      refine kw_iload_n hB M_digit_32 rfl ?_
      refine kw_iconst hB M_digit_33 (v := nI 1) (by decide) ?_
      refine kn_isub hB M_digit_34 (by omega) ?_
      refine kw_iload_n hB M_digit_35 rfl ?_
      refine kn_isub hB M_digit_36 (by omega) ?_
      refine kn_icmp_ge hB M_digit_37 (by omega) (by omega) (fun z => absurd z (by omega)) (fun _ => ?_)
      refine kw_iload_n hB M_digit_40 rfl ?_
      refine kw_bipush hB M_digit_41 (v := nI 16) (by decide) ?_
      refine kn_idiv hB M_digit_43 (by omega) (by decide) (by decide) ?_
      refine kw_istore_n hB M_digit_44 rfl (by decide) rfl ?_
      refine kn_iinc hB M_digit_45 rfl (by decide) rfl ?_
      refine kw_goto hB M_digit_48 ?_
      rw [hstep]
      exact ih (j + 1) hkn (by omega)
  have b22 : ∀ (u v : Value) , K 22 [.ref 145, .int (nI k), .int (nI (jlen a)), u, v] [] X 0 0 := by
    intro u v
    refine kw_aload_n hB M_digit_22 rfl ?_
    refine kw_getf hB M_digit_23 f_M_129 h.1 rfl ?_
    rw [hw]
    refine kw_istore_n hB M_digit_26 rfl (by decide) rfl ?_
    refine kw_iconst hB M_digit_27 (v := nI 0) (by decide) ?_
    refine kw_istore hB M_digit_28 (by decide) rfl ?_
    have e0 : nI a = nI (a / 16 ^ 0) := by rw [Nat.pow_zero, Nat.div_one]
    by_cases hkn : k < jlen a
    · rw [e0]
      exact down (jlen a - 1 - k) 0 hkn (by omega)
    · refine kw_iload hB M_digit_30 rfl ?_
      refine kw_iload_n hB M_digit_32 rfl ?_
      refine kw_iconst hB M_digit_33 (v := nI 1) (by decide) ?_
      refine kw_isub hB M_digit_34 ?_
      refine kw_iload_n hB M_digit_35 rfl ?_
      refine kw_isub hB M_digit_36 ?_
      refine kw_icmp_ge hB M_digit_37 (fun _ => ?_) (fun z => absurd (jneg _ (by omega) _ (by omega) (by omega)) z)
      rw [e0]
      exact b51 0 _ (fun z => absurd z hkn)
  have up : ∀ p i (v : Value), i + p = jlen a → K 7 [.ref 145, .int (nI k), .int (nI i), .int (nI (a / 16 ^ i)), v] [] X 0 0 := by
    intro p
    induction p with
    | zero =>
      intro i v hi
      have h0 : a / 16 ^ i = 0 := Classical.byContradiction fun z => by have := (jlen_at i a).mp z; omega
      refine kw_iload_n hB M_digit_7 rfl ?_
      refine kw_if_le hB M_digit_8 (fun _ => ?_) (fun z => absurd (by rw [h0]; decide) z)
      rw [show i = jlen a by omega]
      exact b22 _ _
    | succ p ih =>
      intro i v hi
      have h0 : a / 16 ^ i ≠ 0 := (jlen_at i a).mpr (by omega)
      have h31 := hdiv i
      refine kw_iload_n hB M_digit_7 rfl ?_
      refine kw_if_le hB M_digit_8 (fun z => absurd (Nat.le_zero.mp ((nI_leI (b := 0) h31 (by decide)).mp z)) h0) (fun _ => ?_)
      refine kn_iinc hB M_digit_11 rfl (by decide) rfl ?_
      refine kw_iload_n hB M_digit_14 rfl ?_
      refine kw_bipush hB M_digit_15 (v := nI 16) (by decide) ?_
      refine kn_idiv hB M_digit_17 (by omega) (by decide) (by decide) ?_
      refine kw_istore_n hB M_digit_18 rfl (by decide) rfl ?_
      refine kw_goto hB M_digit_19 ?_
      rw [hstep]
      exact ih (i + 1) v (by omega)
  refine kw_iconst hB M_digit_0 (v := nI 0) (by decide) ?_
  refine kw_istore_n hB M_digit_1 rfl (by decide) rfl ?_
  refine kw_aload_n hB M_digit_2 rfl ?_
  refine kw_getf hB M_digit_3 f_M_129 h.1 rfl ?_
  rw [hw]
  refine kw_istore_n hB M_digit_6 rfl (by decide) rfl ?_
  have := up (jlen a) 0 (.retAddr 0) (by omega)
  rw [Nat.pow_zero, Nat.div_one] at this
  exact this
def jWn (a k c : Nat) : Nat := if k < 7 ∧ jdl a k = c then k + 1 else 7
def jWa (a k : Nat) : Bool := decide (k < 7) && decide (jdl a k = 0) && (decide (k = 0) || decide (0 < jdl a (k - 1)))
theorem jdl_lt {a k : Nat} : jdl a k < 2 ^ 31 := by
  unfold jdl
  split
  · have := jdig_lt a (jlen a) k; omega
  · decide
set_option maxHeartbeats 4000000 in
set_option maxRecDepth 100000 in
theorem jRu_WORD {a : Nat} (hw : s 18 = nI 6) (hwd : s 24 = nI a) (ha : a < 2 ^ 24) (hd : jdg 4 a) : jRu l D g (fun k => k < 8) 0 (jWn a) (jWa a) s st gd tb := by
  refine ⟨by decide, fun k c hk _ _ => by unfold jWn; split <;> omega, fun k hk => by omega, fun X s' st' gd' tb' h hs _ _ _ => ?_⟩
  have hw' := (hs 18 (by decide) (by decide)).trans hw
  have hd' := (hs 24 (by decide) (by decide)).trans hwd
  refine ⟨?_, fun k hk => ?_, fun k c hk h1 h8 => ?_⟩
  · refine ja_metK (by decide) rfl (Nat.le_of_ble_eq_true rfl) fun K hB hF => ?_
    refine kw_aload_n hB M_first_0 rfl ?_
    refine kw_getf hB M_first_1 f_M_132 h.1 rfl ?_
    rw [hw']
    refine kw_iconst hB M_first_4 (v := nI 1) (by decide) ?_
    refine kn_icmp_ne hB M_first_5 (by decide) (by decide) (fun _ => ?_) (fun z => absurd z (by decide))
    refine kw_aload_n hB M_first_14 rfl ?_
    refine kw_getf hB M_first_15 f_M_132 h.1 rfl ?_
    rw [hw']
    refine kw_iconst hB M_first_18 (v := nI 2) (by decide) ?_
    refine kn_icmp_ne hB M_first_19 (by decide) (by decide) (fun _ => ?_) (fun z => absurd z (by decide))
    refine kw_aload_n hB M_first_24 rfl ?_
    refine kw_getf hB M_first_25 f_M_132 h.1 rfl ?_
    rw [hw']
    refine kw_iconst hB M_first_28 (v := nI 3) (by decide) ?_
    refine kn_icmp_ne hB M_first_29 (by decide) (by decide) (fun _ => ?_) (fun z => absurd z (by decide))
    -- now at 48
    refine kw_iconst hB M_first_48 (v := nI 0) (by decide) ?_
    refine kw_iret hF rfl M_first_49 ?_ (by first | (simp [jLs_len]; done) | (simp [*]; done))
    exact ⟨rfl, rfl⟩
  · refine ja_metK (by decide) rfl (Nat.le_of_ble_eq_true rfl) fun K hB hF => ?_
    have no : jWa a k = false → K 238 [.ref 145, .int (nI k)] [] X 0 0 := by
      intro hno
      refine kw_iconst hB M_mayEnd_238 (v := nI 0) (by decide) ?_
      refine kw_zret hF rfl (by first | rfl | decide) M_mayEnd_239 ?_ (by first | (simp [jLs_len]; done) | (simp [*]; done))
      exact ⟨by rw [hno]; rfl, rfl⟩
    have yes : jWa a k = true → K 234 [.ref 145, .int (nI k)] [] X 0 0 := by
      intro hy
      refine kw_iconst hB M_mayEnd_234 (v := nI 1) (by decide) ?_
      refine kw_goto hB M_mayEnd_235 ?_
      refine kw_zret hF rfl (by first | rfl | decide) M_mayEnd_239 ?_ (by first | (simp [jLs_len]; done) | (simp [*]; done))
      exact ⟨by rw [hy]; rfl, rfl⟩
    have l1 := jdl_lt (a := a) (k := k)
    have l2 := jdl_lt (a := a) (k := k - 1)
    refine kw_aload_n hB M_mayEnd_0 rfl ?_
    refine kw_getf hB M_mayEnd_1 f_M_132 h.1 rfl ?_
    rw [hw']
    refine kn_if_ne hB M_mayEnd_4 (by decide) (fun _ => ?_) (fun z => absurd z (by decide))
    refine kw_aload_n hB M_mayEnd_39 rfl ?_
    refine kw_getf hB M_mayEnd_40 f_M_132 h.1 rfl ?_
    rw [hw']
    refine kw_iconst hB M_mayEnd_43 (v := nI 1) (by decide) ?_
    refine kn_icmp_eq hB M_mayEnd_44 (by decide) (by decide) (fun z => absurd z (by decide)) (fun _ => ?_)
    refine kw_aload_n hB M_mayEnd_47 rfl ?_
    refine kw_getf hB M_mayEnd_48 f_M_132 h.1 rfl ?_
    rw [hw']
    refine kw_iconst hB M_mayEnd_51 (v := nI 2) (by decide) ?_
    refine kn_icmp_ne hB M_mayEnd_52 (by decide) (by decide) (fun _ => ?_) (fun z => absurd z (by decide))
    refine kw_aload_n hB M_mayEnd_75 rfl ?_
    refine kw_getf hB M_mayEnd_76 f_M_132 h.1 rfl ?_
    rw [hw']
    refine kw_iconst hB M_mayEnd_79 (v := nI 3) (by decide) ?_
    refine kn_icmp_ne hB M_mayEnd_80 (by decide) (by decide) (fun _ => ?_) (fun z => absurd z (by decide))
    refine kw_aload_n hB M_mayEnd_106 rfl ?_
    refine kw_getf hB M_mayEnd_107 f_M_132 h.1 rfl ?_
    rw [hw']
    refine kw_iconst hB M_mayEnd_110 (v := nI 4) (by decide) ?_
    refine kn_icmp_ne hB M_mayEnd_111 (by decide) (by decide) (fun _ => ?_) (fun z => absurd z (by decide))
    refine kw_aload_n hB M_mayEnd_150 rfl ?_
    refine kw_getf hB M_mayEnd_151 f_M_132 h.1 rfl ?_
    rw [hw']
    refine kw_iconst hB M_mayEnd_154 (v := nI 5) (by decide) ?_
    refine kn_icmp_ne hB M_mayEnd_155 (by decide) (by decide) (fun _ => ?_) (fun z => absurd z (by decide))
    refine kw_aload_n hB M_mayEnd_197 rfl ?_
    refine kw_getf hB M_mayEnd_198 f_M_132 h.1 rfl ?_
    rw [hw']
    refine kw_bipush hB M_mayEnd_201 (v := nI 6) (by decide) ?_
    refine kn_icmp_ne hB M_mayEnd_203 (by decide) (by decide) (fun z => absurd rfl z) (fun _ => ?_)
    -- now at 206
    refine kw_iload_n hB M_mayEnd_206 rfl ?_
    refine kw_bipush hB M_mayEnd_207 (v := nI 7) (by decide) ?_
    refine kn_icmp_ge hB M_mayEnd_209 (by omega) (by decide) (fun z => no ?_) (fun z => ?_)
    · unfold jWa; rw [decide_eq_false (show ¬ k < 7 by omega)]; rfl
    refine kw_aload_n hB M_mayEnd_212 rfl ?_
    refine kw_iload_n hB M_mayEnd_213 rfl ?_
    refine kw_callV hB M_mayEnd_214 s_M_161 im_M_digit se_M_digit h.1 rfl rfl (As := [.int (nI k)]) (c_M_digit l D g h hd' ha hd z) rfl (by decide) (Nat.le_of_ble_eq_true rfl) (by omega) (by omega) (fun r X1 hq hl => ?_)
    obtain ⟨rfl, hxeq⟩ := hq
    obtain rfl := hxeq.symm
    refine kn_if_ne hB M_mayEnd_217 l1 (fun z2 => no ?_) (fun z2 => ?_)
    · unfold jWa; rw [decide_eq_false z2, Bool.and_false]; rfl
    refine kw_iload_n hB M_mayEnd_220 rfl ?_
    refine kn_if_eq hB M_mayEnd_221 (by omega) (fun z3 => yes ?_) (fun z3 => ?_)
    · unfold jWa; rw [decide_eq_true z, decide_eq_true z2, decide_eq_true z3]; rfl
    refine kw_aload_n hB M_mayEnd_224 rfl ?_
    refine kw_iload_n hB M_mayEnd_225 rfl ?_
    refine kw_iconst hB M_mayEnd_226 (v := nI 1) (by decide) ?_
    refine kn_isub hB M_mayEnd_227 (by omega) ?_
    refine kw_callV hB M_mayEnd_228 s_M_161 im_M_digit se_M_digit h.1 rfl rfl (As := [.int (nI (k - 1))]) (c_M_digit l D g h hd' ha hd (by omega)) rfl (by decide) (Nat.le_of_ble_eq_true rfl) (by omega) (by omega) (fun r X1 hq hl => ?_)
    obtain ⟨rfl, hxeq⟩ := hq
    obtain rfl := hxeq.symm
    refine kw_if_le hB M_mayEnd_231 (fun z4 => no ?_) (fun z4 => yes ?_)
    · have z4 := (nI_leI (b := 0) l2 (by decide)).mp z4
      unfold jWa; rw [decide_eq_false z3, decide_eq_false (show ¬ 0 < jdl a (k - 1) by omega), Bool.or_false, Bool.and_false]
    · have z4 : 0 < jdl a (k - 1) := Classical.byContradiction fun q => z4 (by rw [show jdl a (k - 1) = 0 by omega]; decide)
      unfold jWa; rw [decide_eq_true z, decide_eq_true z2, decide_eq_true z4, Bool.or_true]; rfl
  · refine ja_metK (by decide) rfl (Nat.le_of_ble_eq_true rfl) fun K hB hF => ?_
    have l1 := jdl_lt (a := a) (k := k)
    refine kw_aload_n hB M_next_0 rfl ?_
    refine kw_getf hB M_next_1 f_M_132 h.1 rfl ?_
    rw [hw']
    refine kn_if_ne hB M_next_4 (by decide) (fun _ => ?_) (fun z => absurd z (by decide))
    refine kw_aload_n hB M_next_14 rfl ?_
    refine kw_getf hB M_next_15 f_M_132 h.1 rfl ?_
    rw [hw']
    refine kw_iconst hB M_next_18 (v := nI 1) (by decide) ?_
    refine kn_icmp_ne hB M_next_19 (by decide) (by decide) (fun _ => ?_) (fun z => absurd z (by decide))
    refine kw_aload_n hB M_next_52 rfl ?_
    refine kw_getf hB M_next_53 f_M_132 h.1 rfl ?_
    rw [hw']
    refine kw_iconst hB M_next_56 (v := nI 2) (by decide) ?_
    refine kn_icmp_ne hB M_next_57 (by decide) (by decide) (fun _ => ?_) (fun z => absurd z (by decide))
    refine kw_aload_n hB M_next_67 rfl ?_
    refine kw_getf hB M_next_68 f_M_132 h.1 rfl ?_
    rw [hw']
    refine kw_iconst hB M_next_71 (v := nI 3) (by decide) ?_
    refine kn_icmp_ne hB M_next_72 (by decide) (by decide) (fun _ => ?_) (fun z => absurd z (by decide))
    refine kw_aload_n hB M_next_126 rfl ?_
    refine kw_getf hB M_next_127 f_M_132 h.1 rfl ?_
    rw [hw']
    refine kw_iconst hB M_next_130 (v := nI 4) (by decide) ?_
    refine kn_icmp_ne hB M_next_131 (by decide) (by decide) (fun _ => ?_) (fun z => absurd z (by decide))
    refine kw_aload_n hB M_next_165 rfl ?_
    refine kw_getf hB M_next_166 f_M_132 h.1 rfl ?_
    rw [hw']
    refine kw_iconst hB M_next_169 (v := nI 5) (by decide) ?_
    refine kn_icmp_ne hB M_next_170 (by decide) (by decide) (fun _ => ?_) (fun z => absurd z (by decide))
    refine kw_aload_n hB M_next_197 rfl ?_
    refine kw_getf hB M_next_198 f_M_132 h.1 rfl ?_
    rw [hw']
    refine kw_bipush hB M_next_201 (v := nI 6) (by decide) ?_
    refine kn_icmp_ne hB M_next_203 (by decide) (by decide) (fun z => absurd rfl z) (fun _ => ?_)
    -- now at 206
    refine kw_iload_n hB M_next_206 rfl ?_
    refine kw_bipush hB M_next_207 (v := nI 7) (by decide) ?_
    refine kn_icmp_ge hB M_next_209 (by omega) (by decide) (fun z => ?_) (fun z => ?_)
    · refine kw_bipush hB M_next_227 (v := nI 7) (by decide) ?_
      refine kw_iret hF rfl M_next_229 ?_ (by first | (simp [jLs_len]; done) | (simp [*]; done))
      exact ⟨by unfold jWn; rw [if_neg (by omega)], rfl⟩
    · refine kw_aload_n hB M_next_212 rfl ?_
      refine kw_iload_n hB M_next_213 rfl ?_
      refine kw_callV hB M_next_214 s_M_161 im_M_digit se_M_digit h.1 rfl rfl (As := [.int (nI k)]) (c_M_digit l D g h hd' ha hd z) rfl (by decide) (Nat.le_of_ble_eq_true rfl) (by omega) (by omega) (fun r X1 hq hl => ?_)
      obtain ⟨rfl, hxeq⟩ := hq
      obtain rfl := hxeq.symm
      refine kw_iload_n hB M_next_217 rfl ?_
      refine kn_icmp_ne hB M_next_218 l1 (by omega) (fun z2 => ?_) (fun z2 => ?_)
      · refine kw_bipush hB M_next_227 (v := nI 7) (by decide) ?_
        refine kw_iret hF rfl M_next_229 ?_ (by first | (simp [jLs_len]; done) | (simp [*]; done))
        exact ⟨by unfold jWn; rw [if_neg (fun q => z2 q.2)], rfl⟩
      · refine kw_iload_n hB M_next_221 rfl ?_
        refine kw_iconst hB M_next_222 (v := nI 1) (by decide) ?_
        refine kn_iadd hB M_next_223 ?_
        refine kw_goto hB M_next_224 ?_
        refine kw_iret hF rfl M_next_229 ?_ (by first | (simp [jLs_len]; done) | (simp [*]; done))
        exact ⟨by unfold jWn; rw [if_pos ⟨z, z2⟩], rfl⟩
end JML4
theorem jmap_div {f : Nat → Nat} (hf : ∀ c, f c < 16) : ∀ j w, jmap f w / 16 ^ j = jmap f (w / 16 ^ j) := by
  intro j
  induction j with
  | zero => intro w; simp
  | succ j ih =>
    intro w
    have e : ∀ u : Nat, u / 16 ^ (j + 1) = u / 16 / 16 ^ j := fun u => by rw [Nat.div_div_eq_div_mul, Nat.pow_succ, Nat.mul_comm]
    rw [e, e]
    by_cases hw : w = 0
    · subst hw; rw [jmap_0]; simp [jmap_0]
    · have := hf (w % 16)
      rw [jmap_s f hw, show (jmap f (w / 16) * 16 + f (w % 16)) / 16 = jmap f (w / 16) by omega]
      exact ih (w / 16)
theorem jmap_dig {f : Nat → Nat} (hf : ∀ c, f c < 16) {w n i : Nat} (hn : n = jlen w) (hi : i < n) : jdig (jmap f w) n i = f (jdig w n i) := by
  unfold jdig
  rw [jmap_div hf]
  have h0 : w / 16 ^ (n - 1 - i) ≠ 0 := (jlen_at _ w).mpr (by omega)
  have := hf (w / 16 ^ (n - 1 - i) % 16)
  rw [jmap_s f h0]
  omega
theorem jmap_cong4 {f f' : Nat → Nat} (h : ∀ c, 1 ≤ c → c ≤ 4 → f c = f' c) : ∀ w, jdg 4 w → jmap f w = jmap f' w := by
  intro w
  induction w using Nat.strongRecOn with
  | ind w ih =>
    intro hd
    by_cases hw : w = 0
    · subst hw; rw [jmap_0, jmap_0]
    · obtain ⟨⟨h1, h2⟩, h3⟩ := (jdg_s hw).mp hd
      rw [jmap_s f hw, jmap_s f' hw, ih (w / 16) (by omega) h3, h _ h1 h2]
theorem jWrun {a : Nat} (ha : a < 2 ^ 24) (hd : jdg 4 a) : ∀ (w : List Nat), jok w → ∀ i, i ≤ jlen a → (jkr (jWn a) i w = jlen a ↔ w = jsf (fun i => jdl a i - 1) (jlen a - i) i) := by
  have hN : jlen a ≤ 6 := jlen_le (by have : (16 : Nat) ^ 6 = 2 ^ 24 := by decide
                                      omega)
  have stay : ∀ w : List Nat, jkr (jWn a) 7 w = 7 := by
    intro w
    induction w with
    | nil => rfl
    | cons c w ih =>
      show jkr (jWn a) (jWn a 7 (c + 1)) w = 7
      rw [show jWn a 7 (c + 1) = 7 from if_neg (fun z => by omega)]
      exact ih
  intro w
  induction w with
  | nil =>
    intro _ i hi
    show i = jlen a ↔ _
    cases hk : jlen a - i with
    | zero => exact ⟨fun _ => rfl, fun _ => by omega⟩
    | succ k => exact ⟨fun z => by omega, fun z => (by cases z)⟩
  | cons c w ih =>
    intro hw i hi
    obtain ⟨hc, hw'⟩ := jok_cons.mp hw
    show jkr (jWn a) (jWn a i (c + 1)) w = jlen a ↔ _
    cases hk : jlen a - i with
    | zero =>
      have hd0 : jdl a i = 0 := by unfold jdl; rw [if_neg (by omega)]
      rw [show jWn a i (c + 1) = 7 from if_neg (fun z => by rw [hd0] at z; omega), stay w]
      exact ⟨fun z => by omega, fun z => (by cases z)⟩
    | succ k =>
      have hdg := jdg_dig hd (show i < jlen a by omega)
      have hdl : jdl a i = 2 * jdig a (jlen a) i - 1 := by unfold jdl; rw [if_pos (by omega)]
      have ej : jsf (fun i => jdl a i - 1) (k + 1) i = (jdl a i - 1) :: jsf (fun i => jdl a i - 1) k (i + 1) := rfl
      rw [ej]
      by_cases hcc : jdl a i = c + 1
      · rw [show jWn a i (c + 1) = i + 1 from if_pos ⟨by omega, hcc⟩]
        have := ih hw' (i + 1) (by omega)
        rw [show jlen a - (i + 1) = k by omega] at this
        rw [this, hcc]
        constructor
        · intro z; rw [z]; rfl
        · intro z; exact (List.cons.inj z).2
      · rw [show jWn a i (c + 1) = 7 from if_neg (fun z => hcc z.2), stay w]
        refine ⟨fun z => by omega, fun z => ?_⟩
        have := (List.cons.inj z).1
        omega
/-- WORD writes the language of the one word -/
theorem jWord_mk {a : Nat} (ha : a < 2 ^ 24) (hd : jdg 4 a) : jMk (fun w => jWa a (jkr (jWn a) 0 w)) = jMk (fun v => decide (v = jWl (jmap (fun s => jlet s false) a))) := by
  have hN : jlen a ≤ 6 := jlen_le (by have : (16 : Nat) ^ 6 = 2 ^ 24 := by decide
                                      omega)
  have dpos : ∀ k, k < jlen a → 0 < jdl a k := fun k hk => by
    have := jdg_dig hd hk
    unfold jdl; rw [if_pos hk]; omega
  have dz : ∀ k, ¬ k < jlen a → jdl a k = 0 := fun k hk => by unfold jdl; rw [if_neg hk]
  have acc : ∀ k, jWa a k = true ↔ k = jlen a := fun k => by
    unfold jWa
    rw [Bool.and_eq_true, Bool.and_eq_true, Bool.or_eq_true, decide_eq_true_iff, decide_eq_true_iff, decide_eq_true_iff, decide_eq_true_iff]
    constructor
    · rintro ⟨⟨h1, h2⟩, h3⟩
      have h4 : ¬ k < jlen a := fun z => by have := dpos k z; omega
      rcases h3 with h3 | h3
      · omega
      · have : k - 1 < jlen a := Classical.byContradiction fun z => by have := dz _ z; omega
        omega
    · rintro rfl
      refine ⟨⟨by omega, dz _ (by omega)⟩, ?_⟩
      by_cases h0 : jlen a = 0
      · exact Or.inl h0
      · exact Or.inr (dpos _ (by omega))
  have hlen : jlen (jmap (fun s => jlet s false) a) = jlen a := (jmap_dg (h := 8) (fun c h1 h4 => by unfold jlet; simp; omega) (by decide) a hd).2
  have jsfc : ∀ (d d' : Nat → Nat) k i, (∀ j, i ≤ j → j < i + k → d j = d' j) → jsf d k i = jsf d' k i := by
    intro d d' k
    induction k with
    | zero => intro i _; rfl
    | succ k ih =>
      intro i h
      show d i :: jsf d k (i + 1) = d' i :: jsf d' k (i + 1)
      rw [h i (Nat.le_refl _) (by omega), ih (i + 1) (fun j h1 h2 => h j (by omega) (by omega))]
  have hword : jWl (jmap (fun s => jlet s false) a) = jsf (fun i => jdl a i - 1) (jlen a - 0) 0 := by
    unfold jWl
    rw [hlen]
    refine jsfc _ _ _ _ (fun j _ hj => ?_)
    have hj : j < jlen a := by omega
    have h16 : ∀ c, (if c < 8 then jlet c false else 0) < 16 := fun c => by unfold jlet; split <;> simp <;> omega
    show jdig (jmap (fun s => jlet s false) a) (jlen (jmap (fun s => jlet s false) a)) j - 1 = jdl a j - 1
    rw [hlen]
    unfold jdl
    rw [if_pos hj]
    have hdg := jdg_dig hd hj
    have : jdig (jmap (fun s => jlet s false) a) (jlen a) j = jlet (jdig a (jlen a) j) false := by
      have e : jmap (fun s => jlet s false) a = jmap (fun c => if c < 8 then jlet c false else 0) a := jmap_cong4 (fun c h1 h4 => by rw [if_pos (by omega)]) a hd
      rw [e, jmap_dig h16 rfl hj, if_pos (by omega)]
    rw [this]
    unfold jlet
    simp
  refine jMk_congr (fun w hw => ?_)
  rw [Bool.eq_iff_iff, acc, jWrun ha hd w hw 0 (Nat.zero_le _), decide_eq_true_iff, hword]
