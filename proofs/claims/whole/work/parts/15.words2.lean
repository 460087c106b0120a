-- Words: numbers as words
def jlen (w : Nat) : Nat := if w = 0 then 0 else jlen (w / 16) + 1
theorem jlen_0 : jlen 0 = 0 := by rw [jlen]; rfl
theorem jlen_s {w : Nat} (h : w ≠ 0) : jlen w = jlen (w / 16) + 1 := by rw [jlen, if_neg h]
theorem jlen_at (i : Nat) : ∀ w, w / 16 ^ i ≠ 0 ↔ i < jlen w := by
  induction i with
  | zero =>
    intro w
    rw [Nat.pow_zero, Nat.div_one]
    by_cases h : w = 0
    · subst h; simp [jlen_0]
    · simp [h, jlen_s h]
  | succ i ih =>
    intro w
    rw [Nat.pow_succ, Nat.mul_comm, ← Nat.div_div_eq_div_mul, ih (w / 16)]
    by_cases h : w = 0
    · subst h; simp [jlen_0]
    · rw [jlen_s h]; omega
theorem jlen_le {w n : Nat} (h : w < 16 ^ n) : jlen w ≤ n := by
  have h1 := jlen_at n w
  rw [Nat.div_eq_of_lt h] at h1
  have h2 : ¬ n < jlen w := fun z => absurd rfl (h1.mpr z)
  omega
theorem jlen_lt {w n : Nat} (h : jlen w ≤ n) : w < 16 ^ n := by
  have h1 : ¬ w / 16 ^ n ≠ 0 := fun z => by have := (jlen_at n w).mp z; omega
  have h2 : w / 16 ^ n = 0 := by omega
  rcases Nat.div_eq_zero_iff.mp h2 with h3 | h3
  · have : 0 < 16 ^ n := Nat.pow_pos (by decide)
    omega
  · exact h3
theorem jp16 (i : Nat) : 2 ^ (4 * i) = 16 ^ i := by rw [Nat.pow_mul]
theorem jdg_lt {w k : Nat} (h : w < 2 ^ 64) : w / k < 2 ^ 64 := Nat.lt_of_le_of_lt (Nat.div_le_self _ _) h
/-- digit i of a word of n digits, from its first on -/
def jdig (w n i : Nat) : Nat := w / 16 ^ (n - 1 - i) % 16
def jmap (f : Nat → Nat) (w : Nat) : Nat := if w = 0 then 0 else jmap f (w / 16) * 16 + f (w % 16)
theorem jmap_0 (f : Nat → Nat) : jmap f 0 = 0 := by rw [jmap]; rfl
theorem jmap_s (f : Nat → Nat) {w : Nat} (h : w ≠ 0) : jmap f w = jmap f (w / 16) * 16 + f (w % 16) := by rw [jmap, if_neg h]
theorem jtop {w n i : Nat} (h : i < n) : w / 16 ^ (n - (i + 1)) / 16 = w / 16 ^ (n - i) ∧ w / 16 ^ (n - (i + 1)) % 16 = jdig w n i := by
  constructor
  · rw [Nat.div_div_eq_div_mul, ← Nat.pow_succ, show (n - (i + 1)).succ = n - i by omega]
  · rw [jdig, show n - (i + 1) = n - 1 - i by omega]
theorem jtop_ne {w i : Nat} (h : i < jlen w) : w / 16 ^ (jlen w - (i + 1)) ≠ 0 := (jlen_at _ w).mpr (by omega)
section JW2
variable (l : Launch) (D : va_G) (g : Nat × Nat) {X : ja_H}
set_option maxHeartbeats 4000000 in
set_option maxRecDepth 100000 in
theorem c_W_hasDigits {w n h : Nat} (hw : w < 2 ^ 64) (hn : n < 2 ^ 31) (hh : h < 2 ^ 31) : AMet l D g 0 0 0 m_W_hasDigits [.long (lN w), .int (nI n), .int (nI h)] X (fun r X' => r = some (.int (nI (jokw n h w).toNat)) ∧ X' = X) := by
  refine ja_metK (by decide) rfl (Nat.le_of_ble_eq_true rfl) fun K hB hF => ?_
  have stop : ∀ (b : Nat) (v i : Nat) (dv : Value), v < 2 ^ 64 → (jokw n h w = true ↔ v = 0) → K 54 [.long (lN w), .retAddr 0, .int (nI n), .int (nI h), .long (lN v), .retAddr 0, .int (nI i), dv] [] X 0 0 := by
    intro _ v i dv hv heq
    refine kw_lload hB W_hasDigits_54 rfl ?_
    refine kw_lconst hB W_hasDigits_56 (v := lN 0) (by decide) ?_
    refine kl_cmp_ne hB W_hasDigits_57 W_hasDigits_58 hv (by decide) (fun hc => ?_) (fun hc => ?_)
    · refine kw_iconst hB W_hasDigits_65 (v := nI 0) (by decide) ?_
      refine kw_zret hF rfl (by first | rfl | decide) W_hasDigits_66 ?_ (by first | (simp [jLs_len]; done) | (simp [*]; done))
      refine ⟨?_, rfl⟩
      cases hb : jokw n h w with
      | false => rfl
      | true => exact absurd (heq.mp hb) hc
    · refine kw_iconst hB W_hasDigits_61 (v := nI 1) (by decide) ?_
      refine kw_goto hB W_hasDigits_62 ?_
      refine kw_zret hF rfl (by first | rfl | decide) W_hasDigits_66 ?_ (by first | (simp [jLs_len]; done) | (simp [*]; done))
      refine ⟨?_, rfl⟩
      rw [heq.mpr hc]; rfl
  have loop : ∀ k v i dv, i + k = n → v < 2 ^ 64 → jokw k h v = jokw n h w → K 6 [.long (lN w), .retAddr 0, .int (nI n), .int (nI h), .long (lN v), .retAddr 0, .int (nI i), dv] [] X 0 0 := by
    intro k
    induction k with
    | zero =>
      intro v i dv hi hv he
      refine kw_iload hB W_hasDigits_6 rfl ?_
      refine kw_iload_n hB W_hasDigits_8 rfl ?_
      refine kn_icmp_ge hB W_hasDigits_9 (by omega) (by omega) (fun hc => ?_) (fun hc => absurd hc (by omega))
      exact stop 0 v i dv hv (by rw [← he]; simp [jokw])
    | succ k ih =>
      intro v i dv hi hv he
      refine kw_iload hB W_hasDigits_6 rfl ?_
      refine kw_iload_n hB W_hasDigits_8 rfl ?_
      refine kn_icmp_ge hB W_hasDigits_9 (by omega) (by omega) (fun hc => absurd hc (by omega)) (fun hc => ?_)
      refine kw_lload hB W_hasDigits_12 rfl ?_
      refine kw_lconst hB W_hasDigits_14 (v := lN 0) (by decide) ?_
      refine kl_cmp_eq hB W_hasDigits_15 W_hasDigits_16 hv (by decide) (fun h0 => ?_) (fun h0 => ?_)
      · subst h0
        exact stop 0 0 i dv (by decide) (by rw [← he]; simp [jokw])
      · refine kw_lload hB W_hasDigits_19 rfl ?_
        refine kw_ldc2 hB W_hasDigits_21 (v := lN 15) (jm 417 (by decide +kernel) rfl) ?_
        refine kl_land hB W_hasDigits_24 hv (by decide) ?_
        rw [show v &&& 15 = v % 16 from Nat.and_two_pow_sub_one_eq_mod v 4]
        refine kl_l2i hB W_hasDigits_25 ?_
        refine kw_istore hB W_hasDigits_26 (by decide) rfl ?_
        refine kw_iload hB W_hasDigits_28 rfl ?_
        refine kw_iconst hB W_hasDigits_30 (v := nI 1) (by decide) ?_
        refine kn_icmp_lt hB W_hasDigits_31 (by omega) (by decide) (fun h1 => ?_) (fun h1 => ?_)
        · refine kw_iconst hB W_hasDigits_40 (v := nI 0) (by decide) ?_
          refine kw_zret hF rfl (by first | rfl | decide) W_hasDigits_41 ?_ (by first | (simp [jLs_len]; done) | (simp [*]; done))
          refine ⟨?_, rfl⟩
          rw [← he, jokw, show (v == 0) = false by simp [h0], decide_eq_false (by omega)]; rfl
        · refine kw_iload hB W_hasDigits_34 rfl ?_
          refine kw_iload_n hB W_hasDigits_36 rfl ?_
          refine kn_icmp_le hB W_hasDigits_37 (by omega) (by omega) (fun h2 => ?_) (fun h2 => ?_)
          · refine kw_lload hB W_hasDigits_42 rfl ?_
            refine kw_iconst hB W_hasDigits_44 (v := nI 4) (by decide) ?_
            refine kl_lushr hB W_hasDigits_45 hv (by decide) ?_
            refine kw_lstore hB W_hasDigits_46 (by decide) rfl ?_
            refine kn_iinc hB W_hasDigits_48 rfl (by decide) rfl ?_
            refine kw_goto hB W_hasDigits_51 ?_
            refine ih (v / 2 ^ 4) (i + 1) _ (by omega) (jdg_lt hv) ?_
            rw [← he, jokw, show (v == 0) = false by simp [h0], decide_eq_true (by omega)]
            simp
          · refine kw_iconst hB W_hasDigits_40 (v := nI 0) (by decide) ?_
            refine kw_zret hF rfl (by first | rfl | decide) W_hasDigits_41 ?_ (by first | (simp [jLs_len]; done) | (simp [*]; done))
            refine ⟨?_, rfl⟩
            rw [← he, jokw, show (v == 0) = false by simp [h0], decide_eq_false (by omega)]; rfl
  refine kw_lload_n hB W_hasDigits_0 rfl ?_
  refine kw_lstore hB W_hasDigits_1 (by decide) rfl ?_
  refine kw_iconst hB W_hasDigits_3 (v := nI 0) (by decide) ?_
  refine kw_istore hB W_hasDigits_4 (by decide) rfl ?_
  exact loop n w 0 _ (by omega) hw rfl
set_option maxHeartbeats 4000000 in
set_option maxRecDepth 100000 in
theorem c_W_isWord {w : Nat} (hw : w < 2 ^ 64) : AMet l D g 1 0 0 m_W_isWord [.long (lN w)] X (fun r X' => r = some (.int (nI (jokw 15 8 w).toNat)) ∧ X' = X) := by
  refine ja_metK (by decide) rfl (Nat.le_of_ble_eq_true rfl) fun K hB hF => ?_
  refine kw_lload_n hB W_isWord_0 rfl ?_
  refine kw_bipush hB W_isWord_1 (v := nI 15) (by decide) ?_
  refine kw_bipush hB W_isWord_3 (v := nI 8) (by decide) ?_
  refine kw_callS hB W_isWord_5 s_W_11 st_W_hasDigits (As := [.long (lN w), .int (nI 15), .int (nI 8)]) (c_W_hasDigits l D g hw (by decide) (by decide)) rfl (by decide) (Nat.le_of_ble_eq_true rfl) (by omega) (by omega) (fun r X1 hq hl => ?_)
  obtain ⟨rfl, hxeq⟩ := hq
  obtain rfl := hxeq.symm
  refine kw_zret hF rfl (by cases jokw 15 8 w <;> decide) W_isWord_8 ?_ (by simp)
  exact ⟨rfl, rfl⟩
set_option maxHeartbeats 4000000 in
set_option maxRecDepth 100000 in
theorem c_W_isConstant {x : Int32} {w : Nat} (hx : x.toInt64 = lN w) (hw : w < 2 ^ 64) : AMet l D g 1 0 0 m_W_isConstant [.int x] X (fun r X' => r = some (.int (nI (jokw 6 4 w).toNat)) ∧ X' = X) := by
  refine ja_metK (by decide) rfl (Nat.le_of_ble_eq_true rfl) fun K hB hF => ?_
  refine kw_iload_n hB W_isConstant_0 rfl ?_
  refine kw_i2l hB W_isConstant_1 hx ?_
  refine kw_bipush hB W_isConstant_2 (v := nI 6) (by decide) ?_
  refine kw_iconst hB W_isConstant_4 (v := nI 4) (by decide) ?_
  refine kw_callS hB W_isConstant_5 s_W_11 st_W_hasDigits (As := [.long (lN w), .int (nI 6), .int (nI 4)]) (c_W_hasDigits l D g hw (by decide) (by decide)) rfl (by decide) (Nat.le_of_ble_eq_true rfl) (by omega) (by omega) (fun r X1 hq hl => ?_)
  obtain ⟨rfl, hxeq⟩ := hq
  obtain rfl := hxeq.symm
  refine kw_zret hF rfl (by cases jokw 6 4 w <;> decide) W_isConstant_8 ?_ (by simp)
  exact ⟨rfl, rfl⟩
set_option maxHeartbeats 4000000 in
set_option maxRecDepth 100000 in
theorem c_W_length {w : Nat} (hw : w < 2 ^ 60) : AMet l D g 0 0 0 m_W_length [.long (lN w)] X (fun r X' => r = some (.int (nI (jlen w))) ∧ X' = X) := by
  have hle : jlen w ≤ 15 := jlen_le (by rw [← jp16]; exact hw)
  refine ja_metK (by decide) rfl (Nat.le_of_ble_eq_true rfl) fun K hB hF => ?_
  have loop : ∀ k i, i + k = 15 → K 4 [.long (lN w), .retAddr 0, .int (nI (min i (jlen w))), .int (nI i)] [] X 0 0 := by
    intro k
    induction k with
    | zero =>
      intro i hi
      refine kw_iload_n hB W_length_4 rfl ?_
      refine kw_bipush hB W_length_5 (v := nI 15) (by decide) ?_
      refine kn_icmp_ge hB W_length_7 (by omega) (by omega) (fun hc => ?_) (fun hc => absurd hc (by omega))
      refine kw_iload_n hB W_length_29 rfl ?_
      refine kw_iret hF rfl W_length_30 ?_ (by first | (simp [jLs_len]; done) | (simp [*]; done))
      exact ⟨by rw [show min i (jlen w) = jlen w by omega], rfl⟩
    | succ k ih =>
      intro i hi
      refine kw_iload_n hB W_length_4 rfl ?_
      refine kw_bipush hB W_length_5 (v := nI 15) (by decide) ?_
      refine kn_icmp_ge hB W_length_7 (by omega) (by omega) (fun hc => absurd hc (by omega)) (fun hc => ?_)
      refine kw_lload_n hB W_length_10 rfl ?_
      refine kw_iconst hB W_length_11 (v := nI 4) (by decide) ?_
      refine kw_iload_n hB W_length_12 rfl ?_
      refine kn_imul hB W_length_13 ?_
      refine kl_lushr hB W_length_14 (by omega) (by omega) ?_
      rw [jp16]
      refine kw_lconst hB W_length_15 (v := lN 0) (by decide) ?_
      refine kl_cmp_eq hB W_length_16 W_length_17 (jdg_lt (by omega)) (by decide) (fun h0 => ?_) (fun h0 => ?_)
      · have h1 : ¬ i < jlen w := fun z => (jlen_at i w).mpr z h0
        refine kn_iinc hB W_length_23 rfl (by decide) rfl ?_
        refine kw_goto hB W_length_26 ?_
        have := ih (i + 1) (by omega)
        rw [show min (i + 1) (jlen w) = min i (jlen w) by omega] at this
        exact this
      · have h1 := (jlen_at i w).mp h0
        refine kn_iinc hB W_length_20 rfl (by decide) rfl ?_
        refine kn_iinc hB W_length_23 rfl (by decide) rfl ?_
        refine kw_goto hB W_length_26 ?_
        have := ih (i + 1) (by omega)
        rw [show min (i + 1) (jlen w) = min i (jlen w) + 1 by omega] at this
        exact this
  refine kw_iconst hB W_length_0 (v := nI 0) (by decide) ?_
  refine kw_istore_n hB W_length_1 rfl (by decide) rfl ?_
  refine kw_iconst hB W_length_2 (v := nI 0) (by decide) ?_
  refine kw_istore_n hB W_length_3 rfl (by decide) rfl ?_
  have := loop 15 0 (by omega)
  rw [Nat.zero_min] at this
  exact this
set_option maxHeartbeats 4000000 in
set_option maxRecDepth 100000 in
theorem c_W_letterAt {w n i : Nat} (hw : w < 2 ^ 60) (hn : n ≤ 15) (hi : i < 2 ^ 31) : AMet l D g 0 0 0 m_W_letterAt [.long (lN w), .int (nI n), .int (nI i)] X (fun r X' => r = some (.int (nI (if i < n then jdig w n i else 0))) ∧ X' = X) := by
  refine ja_metK (by decide) rfl (Nat.le_of_ble_eq_true rfl) fun K hB hF => ?_
  refine kw_iload_n hB W_letterAt_0 rfl ?_
  refine kw_if_lt hB W_letterAt_1 (fun h0 => absurd h0 (nI_pos hi)) (fun _ => ?_)
  refine kw_iload_n hB W_letterAt_4 rfl ?_
  refine kw_iload_n hB W_letterAt_5 rfl ?_
  refine kn_icmp_lt hB W_letterAt_6 (by omega) (by omega) (fun hc => ?_) (fun hc => ?_)
  · refine kw_lload_n hB W_letterAt_13 rfl ?_
    refine kw_iconst hB W_letterAt_14 (v := nI 4) (by decide) ?_
    refine kw_iload_n hB W_letterAt_15 rfl ?_
    refine kw_iconst hB W_letterAt_16 (v := nI 1) (by decide) ?_
    refine kn_isub hB W_letterAt_17 (by omega) ?_
    refine kw_iload_n hB W_letterAt_18 rfl ?_
    refine kn_isub hB W_letterAt_19 (by omega) ?_
    refine kn_imul hB W_letterAt_20 ?_
    refine kl_lushr hB W_letterAt_21 (by omega) (by omega) ?_
    rw [jp16]
    refine kl_l2i hB W_letterAt_22 ?_
    refine kw_bipush hB W_letterAt_23 (v := nI 15) (by decide) ?_
    refine kn_iand hB W_letterAt_25 ?_
    rw [show w / 16 ^ (n - 1 - i) &&& 15 = w / 16 ^ (n - 1 - i) % 16 from Nat.and_two_pow_sub_one_eq_mod _ 4]
    refine kw_iret hF rfl W_letterAt_26 ?_ (by first | (simp [jLs_len]; done) | (simp [*]; done))
    exact ⟨by rw [if_pos hc]; rfl, rfl⟩
  · refine kw_iconst hB W_letterAt_9 (v := nI 0) (by decide) ?_
    refine kw_goto hB W_letterAt_10 ?_
    refine kw_iret hF rfl W_letterAt_26 ?_ (by first | (simp [jLs_len]; done) | (simp [*]; done))
    exact ⟨by rw [if_neg (by omega)], rfl⟩
set_option maxHeartbeats 4000000 in
set_option maxRecDepth 100000 in
theorem c_W_letterAt_neg {w n : Nat} {x : Int32} (hx : x < 0) : AMet l D g 0 0 0 m_W_letterAt [.long (lN w), .int (nI n), .int x] X (fun r X' => r = some (.int (nI 0)) ∧ X' = X) := by
  refine ja_metK (by decide) rfl (Nat.le_of_ble_eq_true rfl) fun K hB hF => ?_
  refine kw_iload_n hB W_letterAt_0 rfl ?_
  refine kw_if_lt hB W_letterAt_1 (fun _ => ?_) (fun h0 => absurd hx h0)
  refine kw_iconst hB W_letterAt_9 (v := nI 0) (by decide) ?_
  refine kw_goto hB W_letterAt_10 ?_
  refine kw_iret hF rfl W_letterAt_26 ?_ (by first | (simp [jLs_len]; done) | (simp [*]; done))
  exact ⟨rfl, rfl⟩
end JW2
