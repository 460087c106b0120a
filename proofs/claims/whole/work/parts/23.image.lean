-- Image
def jIr (X : ja_H) (p : Nat) (mk sl : Nat → Int32) : Prop := X[p]? = some (.inr (6, [.ref (p + 1), .ref (p + 3), .ref (p + 4)])) ∧ X[p + 3]? = some (.inl (0, 9, .inl mk)) ∧ X[p + 4]? = some (.inl (0, 8, .inl sl))
def jIq (x sl : Nat → Nat) (S c acc : Nat) : Nat → Nat
  | 0 => acc
  | m + 1 => if S.testBit m then jIq x sl S c acc m ||| sl (x (m * 8 + c - 1)) else jIq x sl S c acc m
def jIn (mk x sl : Nat → Nat) (n S c : Nat) : Nat → Nat
  | 0 => 0
  | k + 1 => if mk (k + 1) = c then jIq x sl S (k + 1) (jIn mk x sl n S c k) n else jIn mk x sl n S c k
section JI
variable (l : Launch) (D : va_G) (g : Nat × Nat) {X : ja_H}
set_option maxHeartbeats 4000000 in
set_option maxRecDepth 100000 in
theorem c_I_firstKey {p : Nat} {mk sl : Nat → Int32} (hp : jIr X p mk sl) : AMet l D g 0 0 0 m_I_firstKey [.ref p] X (fun r X' => r = some (.int (sl 0)) ∧ X' = X) := by
  obtain ⟨p1, p2, p3⟩ := hp
  refine ja_metK (by decide) rfl (Nat.le_of_ble_eq_true rfl) fun K hB hF => ?_
  refine kw_aload_n hB I_firstKey_0 rfl ?_
  refine kw_getf hB I_firstKey_1 f_I_22 p1 rfl ?_
  refine kw_iconst hB I_firstKey_4 (v := nI 0) (by decide) ?_
  refine kn_iald hB I_firstKey_5 p3 rfl (by omega) (by first | decide | omega) ?_
  refine kw_iret hF rfl I_firstKey_6 ?_ (by first | (simp [jLs_len]; done) | (simp [*]; done))
  exact ⟨rfl, rfl⟩
set_option maxHeartbeats 4000000 in
set_option maxRecDepth 100000 in
theorem c_I_isGoodKey {p n gd k : Nat} {x : Nat → Nat} {mk sl : Nat → Int32} (hp : jIr X p mk sl) (ha : jLv X (p + 1) n gd x) : AMet l D g 1 0 0 m_I_isGoodKey [.ref p, .int (nI k)] X (fun r X' => r = some (.int (nI (decide (gd &&& k ≠ 0)).toNat)) ∧ X' = X) := by
  obtain ⟨p1, p2, p3⟩ := hp
  have ra := ha.choose_spec.1.1
  refine ja_metK (by decide) rfl (Nat.le_of_ble_eq_true rfl) fun K hB hF => ?_
  refine kw_aload_n hB I_isGoodKey_0 rfl ?_
  refine kw_getf hB I_isGoodKey_1 f_I_12 p1 rfl ?_
  refine kw_iload_n hB I_isGoodKey_4 rfl ?_
  refine kw_callV hB I_isGoodKey_5 s_I_45 im_L_hasGood se_L_hasGood ra rfl rfl (As := [.int (nI k)]) (v_L_hasGood l D g ha) rfl (by decide) (Nat.le_of_ble_eq_true rfl) (by omega) (by omega) (fun r X1 hq hl => ?_)
  obtain ⟨rfl, hxeq⟩ := hq
  obtain rfl := hxeq.symm
  refine kw_zret hF rfl (by cases decide (gd &&& k ≠ 0) <;> decide) I_isGoodKey_8 ?_ (by simp)
  exact ⟨rfl, rfl⟩
set_option maxHeartbeats 4000000 in
set_option maxRecDepth 100000 in
theorem c_I_keyAfter {p n gd k c : Nat} {x mk sl : Nat → Nat} {mf sf : Nat → Int32} (hp : jIr X p mf sf) (ha : jLv X (p + 1) n gd x) (hn : n ≤ 8) (hm : ∀ i, i < 9 → mf i = nI (mk i)) (hm2 : ∀ i, i < 9 → mk i < 2 ^ 31) (hs : ∀ i, i < n → sf i = nI (sl i)) (hk : k < 2 ^ 31) (hc : c < 2 ^ 31) : AMet l D g 1 0 0 m_I_keyAfter [.ref p, .int (nI k), .int (nI c)] X (fun r X' => r = some (.int (nI (jIn mk x sl n k c 8))) ∧ X' = X) := by
  obtain ⟨p1, p2, p3⟩ := hp
  have ra := ha.choose_spec.1.1
  obtain ⟨-, -, -, hx⟩ := ha.good
  refine ja_metK (by decide) rfl (Nat.le_of_ble_eq_true rfl) fun K hB hF => ?_
  have outer : ∀ m j (u : Value), j + m = 8 → K 5 [.ref p, .int (nI k), .int (nI c), .int (nI (jIn mk x sl n k c j)), .int (nI (j + 1)), u] [] X 0 0 := by
    intro m
    induction m with
    | zero =>
      intro j u hj
      refine kw_iload hB I_keyAfter_5 rfl ?_
      refine kw_bipush hB I_keyAfter_7 (v := nI 8) (by decide) ?_
      refine kn_icmp_gt hB I_keyAfter_9 (by omega) (by decide) (fun hc => ?_) (fun hc => absurd hc (by omega))
      refine kw_iload_n hB I_keyAfter_79 rfl ?_
      refine kw_iret hF rfl I_keyAfter_80 ?_ (by first | (simp [jLs_len]; done) | (simp [*]; done))
      exact ⟨by rw [show j = 8 by omega], rfl⟩
    | succ m ih =>
      intro j u hj
      have fin : ∀ (v q : Nat), v = jIn mk x sl n k c (j + 1) → K 73 [.ref p, .int (nI k), .int (nI c), .int (nI v), .int (nI (j + 1)), .int (nI q)] [] X 0 0 := by
        intro v q hv
        subst hv
        refine kn_iinc hB I_keyAfter_73 rfl (by decide) rfl ?_
        refine kw_goto hB I_keyAfter_76 ?_
        exact ih (j + 1) _ (by omega)
      have inner : mk (j + 1) = c → ∀ i q, q + i = n → K 15 [.ref p, .int (nI k), .int (nI c), .int (nI (jIq x sl k (j + 1) (jIn mk x sl n k c j) q)), .int (nI (j + 1)), .int (nI q)] [] X 0 0 := by
        intro hmk i
        induction i with
        | zero =>
          intro q hq0
          refine kw_iload hB I_keyAfter_15 rfl ?_
          refine kw_aload_n hB I_keyAfter_17 rfl ?_
          refine kw_getf hB I_keyAfter_18 f_I_12 p1 rfl ?_
          refine kw_getf hB I_keyAfter_21 f_I_35 ra rfl ?_
          refine kn_icmp_ge hB I_keyAfter_24 (by omega) (by omega) (fun hc => ?_) (fun hc => absurd hc (by omega))
          exact fin _ q (by rw [jIn, if_pos hmk, show q = n by omega])
        | succ i ihi =>
          intro q hq0
          refine kw_iload hB I_keyAfter_15 rfl ?_
          refine kw_aload_n hB I_keyAfter_17 rfl ?_
          refine kw_getf hB I_keyAfter_18 f_I_12 p1 rfl ?_
          refine kw_getf hB I_keyAfter_21 f_I_35 ra rfl ?_
          refine kn_icmp_ge hB I_keyAfter_24 (by omega) (by omega) (fun hc => absurd hc (by omega)) (fun hcc => ?_)
          refine kw_aload_n hB I_keyAfter_27 rfl ?_
          refine kw_getf hB I_keyAfter_28 f_I_18 p1 rfl ?_
          refine kw_iload hB I_keyAfter_31 rfl ?_
          refine kn_iald hB I_keyAfter_33 p2 rfl (by omega) (by first | decide | omega) ?_
          refine kw_iload_n hB I_keyAfter_34 rfl ?_
          rw [hm _ (by omega)]
          refine kn_icmp_ne hB I_keyAfter_35 (hm2 _ (by omega)) hc (fun h => absurd hmk h) (fun _ => ?_)
          refine kw_iload_n hB I_keyAfter_38 rfl ?_
          refine kw_iload hB I_keyAfter_39 rfl ?_
          refine kn_ishr hB I_keyAfter_41 (by omega) hk ?_
          refine kw_iconst hB I_keyAfter_42 (v := nI 1) (by decide) ?_
          refine kn_iand hB I_keyAfter_43 ?_
          rw [Nat.and_one_is_mod, jb_bit]
          refine kw_iconst hB I_keyAfter_44 (v := nI 1) (by decide) ?_
          have nxt : ∀ v, v = jIq x sl k (j + 1) (jIn mk x sl n k c j) (q + 1) → K 67 [.ref p, .int (nI k), .int (nI c), .int (nI v), .int (nI (j + 1)), .int (nI q)] [] X 0 0 := by
            intro v hv
            subst hv
            refine kn_iinc hB I_keyAfter_67 rfl (by decide) rfl ?_
            refine kw_goto hB I_keyAfter_70 ?_
            exact ihi (q + 1) (by omega)
          refine kn_icmp_ne hB I_keyAfter_45 (by split <;> decide) (by decide) (fun h => ?_) (fun h => ?_)
          · exact nxt _ (by rw [jIq, if_neg]; intro z; rw [if_pos z] at h; exact h rfl)
          · have hbit : k.testBit q = true := by cases hb : k.testBit q with | true => rfl | false => rw [hb] at h; cases h
            have hxl := hx (q * 8 + (j + 1) - 1) (by omega)
            refine kw_iload_n hB I_keyAfter_48 rfl ?_
            refine kw_aload_n hB I_keyAfter_49 rfl ?_
            refine kw_getf hB I_keyAfter_50 f_I_22 p1 rfl ?_
            refine kw_aload_n hB I_keyAfter_53 rfl ?_
            refine kw_getf hB I_keyAfter_54 f_I_12 p1 rfl ?_
            refine kw_iload hB I_keyAfter_57 rfl ?_
            refine kw_iload hB I_keyAfter_59 rfl ?_
            refine kw_callV hB I_keyAfter_61 s_I_42 im_L_after se_L_after ra rfl rfl (As := [.int (nI q), .int (nI (j + 1))]) (v_L_after l D g ha (by omega) (by omega) (by omega)) rfl (by decide) (Nat.le_of_ble_eq_true rfl) (by omega) (by omega) (fun r X1 hq hl => ?_)
            obtain ⟨rfl, hxeq⟩ := hq
            obtain rfl := hxeq.symm
            refine kn_iald hB I_keyAfter_64 p3 rfl (by omega) (by decide) ?_
            rw [hs _ hxl]
            refine kn_ior hB I_keyAfter_65 ?_
            refine kw_istore_n hB I_keyAfter_66 rfl (by decide) rfl ?_
            exact nxt _ (by rw [jIq, if_pos hbit])
      refine kw_iload hB I_keyAfter_5 rfl ?_
      refine kw_bipush hB I_keyAfter_7 (v := nI 8) (by decide) ?_
      refine kn_icmp_gt hB I_keyAfter_9 (by omega) (by decide) (fun hc => absurd hc (by omega)) (fun hcc => ?_)
      refine kw_iconst hB I_keyAfter_12 (v := nI 0) (by decide) ?_
      refine kw_istore hB I_keyAfter_13 (by decide) rfl ?_
      by_cases hmk : mk (j + 1) = c
      · exact inner hmk n 0 (by omega)
      · refine kw_iload hB I_keyAfter_15 rfl ?_
        refine kw_aload_n hB I_keyAfter_17 rfl ?_
        refine kw_getf hB I_keyAfter_18 f_I_12 p1 rfl ?_
        refine kw_getf hB I_keyAfter_21 f_I_35 ra rfl ?_
        refine kn_icmp_ge hB I_keyAfter_24 (by omega) (by omega) (fun hc => ?_) (fun hcc => ?_)
        · exact fin _ 0 (by rw [jIn, if_neg hmk])
        · refine kw_aload_n hB I_keyAfter_27 rfl ?_
          refine kw_getf hB I_keyAfter_28 f_I_18 p1 rfl ?_
          refine kw_iload hB I_keyAfter_31 rfl ?_
          refine kn_iald hB I_keyAfter_33 p2 rfl (by omega) (by first | decide | omega) ?_
          refine kw_iload_n hB I_keyAfter_34 rfl ?_
          rw [hm _ (by omega)]
          refine kn_icmp_ne hB I_keyAfter_35 (hm2 _ (by omega)) hc (fun _ => ?_) (fun h => absurd h hmk)
          exact fin _ 0 (by rw [jIn, if_neg hmk])
  refine kw_iconst hB I_keyAfter_0 (v := nI 0) (by decide) ?_
  refine kw_istore_n hB I_keyAfter_1 rfl (by decide) rfl ?_
  refine kw_iconst hB I_keyAfter_2 (v := nI 1) (by decide) ?_
  refine kw_istore hB I_keyAfter_3 (by decide) rfl ?_
  exact outer 8 0 _ (by omega)
end JI
