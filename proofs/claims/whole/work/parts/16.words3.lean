-- Words: ofConstant, joined, applied, meets, isAttack
/-- a word of at most 15 letters that would be longer: all ones, which is -1 -/
abbrev jOV : Nat := 18446744073709551615
def jcat (a b : Nat) : Nat := if jlen a + jlen b > 15 then jOV else a * 2 ^ (4 * jlen b) ||| b
def japp (f w : Nat) : Nat := if w = 0 then 0 else if japp f (w / 16) = jOV then jOV else jcat (japp f (w / 16)) (jimg (w % 16) f)
theorem japp_0 (f : Nat) : japp f 0 = 0 := by rw [japp]; rfl
theorem japp_s (f : Nat) {w : Nat} (h : w ≠ 0) : japp f w = if japp f (w / 16) = jOV then jOV else jcat (japp f (w / 16)) (jimg (w % 16) f) := by rw [japp, if_neg h]
theorem jcat_ok (a b : Nat) (hb : b < 2 ^ 60) (ha : a < 2 ^ 60) : jcat a b = jOV ∨ jcat a b < 2 ^ 60 := by
  unfold jcat
  by_cases h : jlen a + jlen b > 15
  · left; rw [if_pos h]
  · right
    rw [if_neg h]
    have h1 : b < 16 ^ jlen b := jlen_lt (Nat.le_refl _)
    have h2 : a < 16 ^ jlen a := jlen_lt (Nat.le_refl _)
    rw [jp16]
    have h3 : a * 16 ^ jlen b < 16 ^ 15 := by
      have : a * 16 ^ jlen b < 16 ^ jlen a * 16 ^ jlen b := Nat.mul_lt_mul_of_pos_right h2 (Nat.pow_pos (by decide))
      rw [← Nat.pow_add] at this
      exact Nat.lt_of_lt_of_le this (Nat.pow_le_pow_right (by decide) (by omega))
    have e : (16 : Nat) ^ 15 = 2 ^ 60 := by decide
    rw [e] at h3
    exact Nat.or_lt_two_pow h3 hb
theorem jimg_lt {c f : Nat} (hc : c < 16) : jimg c f < 2 ^ 8 := by
  unfold jimg
  have h8 : jlet 4 (jtnt c) * 16 < 2 ^ 8 := by unfold jlet; split <;> decide
  split
  · split <;> omega
  · split
    · split <;> omega
    · split
      · exact Nat.or_lt_two_pow h8 (by omega)
      · omega
theorem japp_ok (f w : Nat) : japp f w = jOV ∨ japp f w < 2 ^ 60 := by
  by_cases h : w = 0
  · subst h; right; rw [japp_0]; decide
  · rw [japp_s f h]
    by_cases h1 : japp f (w / 16) = jOV
    · left; rw [if_pos h1]
    · rw [if_neg h1]
      rcases japp_ok f (w / 16) with h2 | h2
      · exact absurd h2 h1
      · exact jcat_ok _ _ (Nat.lt_trans (jimg_lt (Nat.mod_lt _ (by decide))) (by decide)) h2
theorem jmap_lt {f : Nat → Nat} (hf : ∀ c, f c < 16) (w : Nat) : jmap f w < 16 ^ jlen w := by
  by_cases h : w = 0
  · subst h; rw [jmap_0, jlen_0]; decide
  · rw [jmap_s f h, jlen_s h, Nat.pow_succ]
    have := jmap_lt hf (w / 16)
    have := hf (w % 16)
    omega
/-- is the condition k for the symbol s met by the word -/
def jmeet (w k s : Nat) : Bool := if k = 0 then decide (∃ i, i < jlen w ∧ jsym (jdig w (jlen w) i) = s) else if k = 1 then decide (0 < jlen w ∧ jsym (jdig w (jlen w) 0) = s) else decide (0 < jlen w ∧ jsym (jdig w (jlen w) (jlen w - 1)) = s)
/-- where the reader for attacks stands behind the first i letters -/
def jatt (w : Nat) : Nat → Nat
  | 0 => 0
  | i + 1 => jread (jatt w i) (jdig w (jlen w) i)
theorem jread_lt (p c : Nat) : jread p c < 4 := by
  unfold jread
  repeat' split
  all_goals decide
theorem jatt_lt (w : Nat) : ∀ i, jatt w i < 4
  | 0 => Nat.le_of_ble_eq_true rfl
  | _ + 1 => jread_lt _ _
theorem jdig_lt (w n i : Nat) : jdig w n i < 16 := Nat.mod_lt _ (by decide)
section JW3
variable (l : Launch) (D : va_G) (g : Nat × Nat) {X : ja_H}
set_option maxHeartbeats 4000000 in
set_option maxRecDepth 100000 in
theorem c_W_joined {a b : Nat} (ha : a < 2 ^ 60) (hb : b < 2 ^ 60) : AMet l D g 1 0 0 m_W_joined [.long (lN a), .long (lN b)] X (fun r X' => r = some (.long (lN (jcat a b))) ∧ X' = X) := by
  have la : jlen a ≤ 15 := jlen_le (by rw [← jp16]; exact ha)
  have lb : jlen b ≤ 15 := jlen_le (by rw [← jp16]; exact hb)
  refine ja_metK (by decide) rfl (Nat.le_of_ble_eq_true rfl) fun K hB hF => ?_
  refine kw_lload_n hB W_joined_0 rfl ?_
  refine kw_callS hB W_joined_1 s_W_17 st_W_length (As := [.long (lN b)]) (c_W_length l D g hb) rfl (by decide) (Nat.le_of_ble_eq_true rfl) (by omega) (by omega) (fun r X1 hq hl => ?_)
  obtain ⟨rfl, hxeq⟩ := hq
  obtain rfl := hxeq.symm
  refine kw_istore hB W_joined_4 (by decide) rfl ?_
  refine kw_lload_n hB W_joined_6 rfl ?_
  refine kw_callS hB W_joined_7 s_W_17 st_W_length (As := [.long (lN a)]) (c_W_length l D g ha) rfl (by decide) (Nat.le_of_ble_eq_true rfl) (by omega) (by omega) (fun r X1 hq hl => ?_)
  obtain ⟨rfl, hxeq⟩ := hq
  obtain rfl := hxeq.symm
  refine kw_iload hB W_joined_10 rfl ?_
  refine kn_iadd hB W_joined_12 ?_
  refine kw_bipush hB W_joined_13 (v := nI 15) (by decide) ?_
  refine kn_icmp_le hB W_joined_15 (by omega) (by decide) (fun hc => ?_) (fun hc => ?_)
  · refine kw_lload_n hB W_joined_24 rfl ?_
    refine kw_iconst hB W_joined_25 (v := nI 4) (by decide) ?_
    refine kw_iload hB W_joined_26 rfl ?_
    refine kn_imul hB W_joined_28 ?_
    refine kl_lshl hB W_joined_29 (by omega) ?_
    refine kw_lload_n hB W_joined_30 rfl ?_
    have h3 : a * 2 ^ (4 * jlen b) < 2 ^ 60 := by
      rw [jp16]
      have h2 : a < 16 ^ jlen a := jlen_lt (Nat.le_refl _)
      have : a * 16 ^ jlen b < 16 ^ jlen a * 16 ^ jlen b := Nat.mul_lt_mul_of_pos_right h2 (Nat.pow_pos (by decide))
      rw [← Nat.pow_add] at this
      exact Nat.lt_of_lt_of_le this (Nat.le_trans (Nat.pow_le_pow_right (by decide) hc) (by decide))
    refine kl_lor hB W_joined_31 (by omega) (by omega) ?_
    refine kw_lret hF rfl W_joined_32 ?_ (by first | (simp [jLs_len]; done) | (simp [*]; done))
    exact ⟨by rw [jcat, if_neg (by omega)], rfl⟩
  · refine kw_ldc2 hB W_joined_18 (v := -1) (jm 815 (by decide +kernel) rfl) ?_
    refine kw_goto hB W_joined_21 ?_
    refine kw_lret hF rfl W_joined_32 ?_ (by first | (simp [jLs_len]; done) | (simp [*]; done))
    exact ⟨by rw [jcat, if_pos (by omega)]; rfl, rfl⟩
set_option maxHeartbeats 4000000 in
set_option maxRecDepth 100000 in
theorem c_W_ofConstant {w : Nat} {t : Bool} (hw : w < 2 ^ 24) (hd : ∀ i, i < jlen w → 1 ≤ jdig w (jlen w) i ∧ jdig w (jlen w) i ≤ 4) : AMet l D g 1 0 0 m_W_ofConstant [.int (nI w), .int (nI t.toNat)] X (fun r X' => r = some (.long (lN (jmap (fun s => jlet s t) w))) ∧ X' = X) := by
  have lw : jlen w ≤ 6 := jlen_le (by rw [← jp16]; exact hw)
  refine ja_metK (by decide) rfl (Nat.le_of_ble_eq_true rfl) fun K hB hF => ?_
  have loop : ∀ k i, i + k = jlen w → jmap (fun s => jlet s t) (w / 16 ^ (jlen w - i)) < 16 ^ i → K 11 [.int (nI w), .int (nI t.toNat), .int (nI (jlen w)), .long (lN (jmap (fun s => jlet s t) (w / 16 ^ (jlen w - i)))), .retAddr 0, .int (nI i)] [] X 0 0 := by
    intro k
    induction k with
    | zero =>
      intro i hi hm
      refine kw_iload hB W_ofConstant_11 rfl ?_
      refine kw_iload_n hB W_ofConstant_13 rfl ?_
      refine kn_icmp_ge hB W_ofConstant_14 (by omega) (by omega) (fun hc => ?_) (fun hc => absurd hc (by omega))
      refine kw_lload_n hB W_ofConstant_41 rfl ?_
      refine kw_lret hF rfl W_ofConstant_42 ?_ (by first | (simp [jLs_len]; done) | (simp [*]; done))
      exact ⟨by rw [show jlen w - i = 0 by omega, Nat.pow_zero, Nat.div_one], rfl⟩
    | succ k ih =>
      intro i hi hm
      have hm2 : (16 : Nat) ^ i ≤ 16 ^ 5 := Nat.pow_le_pow_right (by decide) (by omega)
      have hm3 : (16 : Nat) ^ 5 = 1048576 := by decide
      obtain ⟨hd1, hd2⟩ := hd i (by omega)
      obtain ⟨t1, t2⟩ := jtop (w := w) (n := jlen w) (i := i) (by omega)
      have hne := jtop_ne (w := w) (i := i) (by omega)
      have hl8 : 1 ≤ jlet (jdig w (jlen w) i) t ∧ jlet (jdig w (jlen w) i) t ≤ 8 := by unfold jlet; split <;> omega
      have hs : jmap (fun s => jlet s t) (w / 16 ^ (jlen w - (i + 1))) = jmap (fun s => jlet s t) (w / 16 ^ (jlen w - i)) * 16 + jlet (jdig w (jlen w) i) t := by
        rw [jmap_s _ hne, t1, t2]
      refine kw_iload hB W_ofConstant_11 rfl ?_
      refine kw_iload_n hB W_ofConstant_13 rfl ?_
      refine kn_icmp_ge hB W_ofConstant_14 (by omega) (by omega) (fun hc => absurd hc (by omega)) (fun hc => ?_)
      refine kw_lload_n hB W_ofConstant_17 rfl ?_
      refine kw_iconst hB W_ofConstant_18 (v := nI 4) (by decide) ?_
      refine kl_lshl hB W_ofConstant_19 (by decide) ?_
      refine kw_iload_n hB W_ofConstant_20 rfl ?_
      refine kl_i2l hB W_ofConstant_21 (by omega) ?_
      refine kw_iload_n hB W_ofConstant_22 rfl ?_
      refine kw_iload hB W_ofConstant_23 rfl ?_
      refine kw_callS hB W_ofConstant_25 s_W_21 st_W_letterAt (As := [.long (lN w), .int (nI (jlen w)), .int (nI i)]) (c_W_letterAt l D g (by omega) (by omega) (by omega)) rfl (by decide) (Nat.le_of_ble_eq_true rfl) (by omega) (by omega) (fun r X1 hq hl => ?_)
      obtain ⟨rfl, hxeq⟩ := hq
      obtain rfl := hxeq.symm
      rw [if_pos (by omega)]
      refine kw_iload_n hB W_ofConstant_28 rfl ?_
      refine kw_callS hB W_ofConstant_29 s_W_25 st_W_letter (As := [.int (nI (jdig w (jlen w) i)), .int (nI t.toNat)]) (c_W_letter l D g hd1 (by omega)) rfl (by decide) (Nat.le_of_ble_eq_true rfl) (by omega) (by omega) (fun r X1 hq hl => ?_)
      obtain ⟨rfl, hxeq⟩ := hq
      obtain rfl := hxeq.symm
      refine kl_i2l hB W_ofConstant_32 (by omega) ?_
      refine kl_lor hB W_ofConstant_33 (by omega) (by omega) ?_
      rw [show jmap (fun s => jlet s t) (w / 16 ^ (jlen w - i)) * 2 ^ 4 ||| jlet (jdig w (jlen w) i) t = jmap (fun s => jlet s t) (w / 16 ^ (jlen w - i)) * 16 + jlet (jdig w (jlen w) i) t by
        rw [Nat.mul_comm _ (2 ^ 4), ← Nat.two_pow_add_eq_or_of_lt (by omega)], ← hs]
      refine kw_lstore_n hB W_ofConstant_34 rfl (by decide) rfl ?_
      refine kn_iinc hB W_ofConstant_35 rfl (by decide) rfl ?_
      refine kw_goto hB W_ofConstant_38 ?_
      refine ih (i + 1) (by omega) ?_
      rw [hs, Nat.pow_succ]
      omega
  refine kw_iload_n hB W_ofConstant_0 rfl ?_
  refine kl_i2l hB W_ofConstant_1 (by omega) ?_
  refine kw_callS hB W_ofConstant_2 s_W_17 st_W_length (As := [.long (lN w)]) (c_W_length l D g (by omega)) rfl (by decide) (Nat.le_of_ble_eq_true rfl) (by omega) (by omega) (fun r X1 hq hl => ?_)
  obtain ⟨rfl, hxeq⟩ := hq
  obtain rfl := hxeq.symm
  refine kw_istore_n hB W_ofConstant_5 rfl (by decide) rfl ?_
  refine kw_lconst hB W_ofConstant_6 (v := lN 0) (by decide) ?_
  refine kw_lstore_n hB W_ofConstant_7 rfl (by decide) rfl ?_
  refine kw_iconst hB W_ofConstant_8 (v := nI 0) (by decide) ?_
  refine kw_istore hB W_ofConstant_9 (by decide) rfl ?_
  have hz : w / 16 ^ (jlen w - 0) = 0 := Nat.div_eq_of_lt (by rw [Nat.sub_zero]; exact jlen_lt (Nat.le_refl _))
  have := loop (jlen w) 0 (by omega) (by rw [hz, jmap_0]; decide)
  rw [hz, jmap_0] at this
  exact this
set_option maxHeartbeats 4000000 in
set_option maxRecDepth 100000 in
theorem c_W_isAttack {w : Nat} (hw : w < 2 ^ 60) : AMet l D g 2 0 0 m_W_isAttack [.long (lN w)] X (fun r X' => r = some (.int (nI (decide (jatt w (jlen w) ≠ 0)).toNat)) ∧ X' = X) := by
  have lw : jlen w ≤ 15 := jlen_le (by rw [← jp16]; exact hw)
  refine ja_metK (by decide) rfl (Nat.le_of_ble_eq_true rfl) fun K hB hF => ?_
  have loop : ∀ k i, i + k = jlen w → K 10 [.long (lN w), .retAddr 0, .int (nI (jlen w)), .int (nI (jatt w i)), .int (nI i)] [] X 0 0 := by
    intro k
    induction k with
    | zero =>
      intro i hi
      have ha := jatt_lt w i
      refine kw_iload hB W_isAttack_10 rfl ?_
      refine kw_iload_n hB W_isAttack_12 rfl ?_
      refine kn_icmp_ge hB W_isAttack_13 (by omega) (by omega) (fun hc => ?_) (fun hc => absurd hc (by omega))
      refine kw_iload_n hB W_isAttack_34 rfl ?_
      have e : i = jlen w := by omega
      refine kn_if_eq hB W_isAttack_35 (by omega) (fun h => ?_) (fun h => ?_)
      · refine kw_iconst hB W_isAttack_42 (v := nI 0) (by decide) ?_
        refine kw_zret hF rfl (by first | rfl | decide) W_isAttack_43 ?_ (by first | (simp [jLs_len]; done) | (simp [*]; done))
        exact ⟨by rw [← e, decide_eq_false (by simp [h])]; rfl, rfl⟩
      · refine kw_iconst hB W_isAttack_38 (v := nI 1) (by decide) ?_
        refine kw_goto hB W_isAttack_39 ?_
        refine kw_zret hF rfl (by first | rfl | decide) W_isAttack_43 ?_ (by first | (simp [jLs_len]; done) | (simp [*]; done))
        exact ⟨by rw [← e, decide_eq_true h]; rfl, rfl⟩
    | succ k ih =>
      intro i hi
      have ha := jatt_lt w i
      refine kw_iload hB W_isAttack_10 rfl ?_
      refine kw_iload_n hB W_isAttack_12 rfl ?_
      refine kn_icmp_ge hB W_isAttack_13 (by omega) (by omega) (fun hc => absurd hc (by omega)) (fun hc => ?_)
      refine kw_iload_n hB W_isAttack_16 rfl ?_
      refine kw_lload_n hB W_isAttack_17 rfl ?_
      refine kw_iload_n hB W_isAttack_18 rfl ?_
      refine kw_iload hB W_isAttack_19 rfl ?_
      refine kw_callS hB W_isAttack_21 s_W_21 st_W_letterAt (As := [.long (lN w), .int (nI (jlen w)), .int (nI i)]) (c_W_letterAt l D g hw (by omega) (by omega)) rfl (by decide) (Nat.le_of_ble_eq_true rfl) (by omega) (by omega) (fun r X1 hq hl => ?_)
      obtain ⟨rfl, hxeq⟩ := hq
      obtain rfl := hxeq.symm
      rw [if_pos (by omega)]
      have hd := jdig_lt w (jlen w) i
      refine kw_callS hB W_isAttack_24 s_W_47 st_W_read (As := [.int (nI (jatt w i)), .int (nI (jdig w (jlen w) i))]) (c_W_read l D g ha (by omega)) rfl (by decide) (Nat.le_of_ble_eq_true rfl) (by omega) (by omega) (fun r X1 hq hl => ?_)
      obtain ⟨rfl, hxeq⟩ := hq
      obtain rfl := hxeq.symm
      refine kw_istore_n hB W_isAttack_27 rfl (by decide) rfl ?_
      refine kn_iinc hB W_isAttack_28 rfl (by decide) rfl ?_
      refine kw_goto hB W_isAttack_31 ?_
      exact ih (i + 1) (by omega)
  refine kw_lload_n hB W_isAttack_0 rfl ?_
  refine kw_callS hB W_isAttack_1 s_W_17 st_W_length (As := [.long (lN w)]) (c_W_length l D g hw) rfl (by decide) (Nat.le_of_ble_eq_true rfl) (by omega) (by omega) (fun r X1 hq hl => ?_)
  obtain ⟨rfl, hxeq⟩ := hq
  obtain rfl := hxeq.symm
  refine kw_istore_n hB W_isAttack_4 rfl (by decide) rfl ?_
  refine kw_iconst hB W_isAttack_5 (v := nI 0) (by decide) ?_
  refine kw_istore_n hB W_isAttack_6 rfl (by decide) rfl ?_
  refine kw_iconst hB W_isAttack_7 (v := nI 0) (by decide) ?_
  refine kw_istore hB W_isAttack_8 (by decide) rfl ?_
  exact loop (jlen w) 0 (by omega)
theorem japp_ov (f : Nat) (j : Nat) : ∀ w, japp f (w / 16 ^ j) = jOV → japp f w = jOV := by
  induction j with
  | zero => intro w h; rw [Nat.pow_zero, Nat.div_one] at h; exact h
  | succ j ih =>
    intro w h
    rw [Nat.pow_succ, Nat.mul_comm, ← Nat.div_div_eq_div_mul] at h
    have h2 := ih (w / 16) h
    by_cases hw : w = 0
    · subst hw; rw [Nat.zero_div, japp_0] at h2; cases h2
    · rw [japp_s f hw, if_pos h2]
set_option maxHeartbeats 4000000 in
set_option maxRecDepth 100000 in
theorem c_W_applied {w f : Nat} (hw : w < 2 ^ 60) (hf : f < 2 ^ 31) (hd : ∀ i, i < jlen w → 1 ≤ jdig w (jlen w) i ∧ jdig w (jlen w) i ≤ 8) : AMet l D g 2 0 0 m_W_applied [.long (lN w), .int (nI f)] X (fun r X' => r = some (.long (lN (japp f w))) ∧ X' = X) := by
  have lw : jlen w ≤ 15 := jlen_le (by rw [← jp16]; exact hw)
  refine ja_metK (by decide) rfl (Nat.le_of_ble_eq_true rfl) fun K hB hF => ?_
  have fin : ∀ (i v : Nat), v = japp f w → K 51 [.long (lN w), .retAddr 0, .int (nI f), .int (nI (jlen w)), .long (lN v), .retAddr 0, .int (nI i)] [] X 0 0 := by
    intro i v hv
    refine kw_lload hB W_applied_51 rfl ?_
    refine kw_lret hF rfl W_applied_53 ?_ (by first | (simp [jLs_len]; done) | (simp [*]; done))
    exact ⟨by rw [hv], rfl⟩
  have loop : ∀ k i, i + k = jlen w → K 11 [.long (lN w), .retAddr 0, .int (nI f), .int (nI (jlen w)), .long (lN (japp f (w / 16 ^ (jlen w - i)))), .retAddr 0, .int (nI i)] [] X 0 0 := by
    intro k
    induction k with
    | zero =>
      intro i hi
      refine kw_iload hB W_applied_11 rfl ?_
      refine kw_iload_n hB W_applied_13 rfl ?_
      refine kn_icmp_ge hB W_applied_14 (by omega) (by omega) (fun hc => ?_) (fun hc => absurd hc (by omega))
      exact fin i _ (by rw [show jlen w - i = 0 by omega, Nat.pow_zero, Nat.div_one])
    | succ k ih =>
      intro i hi
      obtain ⟨hd1, hd2⟩ := hd i (by omega)
      obtain ⟨t1, t2⟩ := jtop (w := w) (n := jlen w) (i := i) (by omega)
      have hne := jtop_ne (w := w) (i := i) (by omega)
      have hok := japp_ok f (w / 16 ^ (jlen w - i))
      refine kw_iload hB W_applied_11 rfl ?_
      refine kw_iload_n hB W_applied_13 rfl ?_
      refine kn_icmp_ge hB W_applied_14 (by omega) (by omega) (fun hc => absurd hc (by omega)) (fun hc => ?_)
      refine kw_lload hB W_applied_17 rfl ?_
      refine kw_ldc2 hB W_applied_19 (v := lN jOV) (jm 815 (by decide +kernel) rfl) ?_
      refine kl_cmp_eq hB W_applied_22 W_applied_23 (by rcases hok with h | h; (rw [h]; decide); omega) (by decide) (fun h0 => ?_) (fun h0 => ?_)
      · exact fin i _ (by rw [h0]; exact (japp_ov f _ w h0).symm)
      · have hlt : japp f (w / 16 ^ (jlen w - i)) < 2 ^ 60 := by rcases hok with h | h; exact absurd h h0; exact h
        have hs : japp f (w / 16 ^ (jlen w - (i + 1))) = jcat (japp f (w / 16 ^ (jlen w - i))) (jimg (jdig w (jlen w) i) f) := by
          rw [japp_s _ hne, t1, t2, if_neg h0]
        have him := jimg_lt (c := jdig w (jlen w) i) (f := f) (by omega)
        refine kw_lload hB W_applied_26 rfl ?_
        refine kw_lload_n hB W_applied_28 rfl ?_
        refine kw_iload_n hB W_applied_29 rfl ?_
        refine kw_iload hB W_applied_30 rfl ?_
        refine kw_callS hB W_applied_32 s_W_21 st_W_letterAt (As := [.long (lN w), .int (nI (jlen w)), .int (nI i)]) (c_W_letterAt l D g hw (by omega) (by omega)) rfl (by decide) (Nat.le_of_ble_eq_true rfl) (by omega) (by omega) (fun r X1 hq hl => ?_)
        obtain ⟨rfl, hxeq⟩ := hq
        obtain rfl := hxeq.symm
        rw [if_pos (by omega)]
        refine kw_iload_n hB W_applied_35 rfl ?_
        refine kw_callS hB W_applied_36 s_W_31 st_W_image (As := [.int (nI (jdig w (jlen w) i)), .int (nI f)]) (c_W_image l D g hd1 hd2 hf) rfl (by decide) (Nat.le_of_ble_eq_true rfl) (by omega) (by omega) (fun r X1 hq hl => ?_)
        obtain ⟨rfl, hxeq⟩ := hq
        obtain rfl := hxeq.symm
        refine kl_i2l hB W_applied_39 (by omega) ?_
        refine kw_callS hB W_applied_40 s_W_35 st_W_joined (As := [.long (lN (japp f (w / 16 ^ (jlen w - i)))), .long (lN (jimg (jdig w (jlen w) i) f))]) (c_W_joined l D g hlt (by omega)) rfl (by decide) (Nat.le_of_ble_eq_true rfl) (by omega) (by omega) (fun r X1 hq hl => ?_)
        obtain ⟨rfl, hxeq⟩ := hq
        obtain rfl := hxeq.symm
        rw [← hs]
        refine kw_lstore hB W_applied_43 (by decide) rfl ?_
        refine kn_iinc hB W_applied_45 rfl (by decide) rfl ?_
        refine kw_goto hB W_applied_48 ?_
        exact ih (i + 1) (by omega)
  refine kw_lload_n hB W_applied_0 rfl ?_
  refine kw_callS hB W_applied_1 s_W_17 st_W_length (As := [.long (lN w)]) (c_W_length l D g hw) rfl (by decide) (Nat.le_of_ble_eq_true rfl) (by omega) (by omega) (fun r X1 hq hl => ?_)
  obtain ⟨rfl, hxeq⟩ := hq
  obtain rfl := hxeq.symm
  refine kw_istore_n hB W_applied_4 rfl (by decide) rfl ?_
  refine kw_lconst hB W_applied_5 (v := lN 0) (by decide) ?_
  refine kw_lstore hB W_applied_6 (by decide) rfl ?_
  refine kw_iconst hB W_applied_8 (v := nI 0) (by decide) ?_
  refine kw_istore hB W_applied_9 (by decide) rfl ?_
  have hz : w / 16 ^ (jlen w - 0) = 0 := Nat.div_eq_of_lt (by rw [Nat.sub_zero]; exact jlen_lt (Nat.le_refl _))
  have := loop (jlen w) 0 (by omega)
  rw [hz, japp_0] at this
  exact this
set_option maxHeartbeats 4000000 in
set_option maxRecDepth 100000 in
theorem c_W_meets {w k s : Nat} (hw : w < 2 ^ 60) (hk : k < 3) (hs : 1 ≤ s) (hs4 : s ≤ 4) : AMet l D g 1 0 0 m_W_meets [.long (lN w), .int (nI k), .int (nI s)] X (fun r X' => r = some (.int (nI (jmeet w k s).toNat)) ∧ X' = X) := by
  have lw : jlen w ≤ 15 := jlen_le (by rw [← jp16]; exact hw)
  refine ja_metK (by decide) rfl (Nat.le_of_ble_eq_true rfl) fun K hB hF => ?_
  have loop : ∀ (n i j0 to : Nat) (fr : Int32), i + n = to → to ≤ jlen w ∨ to = 1 → ((∃ j, i ≤ j ∧ j < to ∧ j < jlen w ∧ jsym (jdig w (jlen w) j) = s) ↔ jmeet w k s = true) → K 38 [.long (lN w), .retAddr 0, .int (nI k), .int (nI s), .int (nI (jlen w)), .int fr, .int (nI to), .int (nI i)] [] X 0 0 := by
    intro n
    induction n with
    | zero =>
      intro i j0 to fr hi ht he
      refine kw_iload hB W_meets_38 rfl ?_
      refine kw_iload hB W_meets_40 rfl ?_
      refine kn_icmp_ge hB W_meets_42 (by omega) (by omega) (fun hc => ?_) (fun hc => absurd hc (by omega))
      refine kw_iconst hB W_meets_68 (v := nI 0) (by decide) ?_
      refine kw_zret hF rfl (by first | rfl | decide) W_meets_69 ?_ (by first | (simp [jLs_len]; done) | (simp [*]; done))
      refine ⟨?_, rfl⟩
      cases hm : jmeet w k s with
      | false => rfl
      | true => obtain ⟨j, h1, h2, -⟩ := he.mpr hm; omega
    | succ n ih =>
      intro i j0 to fr hi ht he
      refine kw_iload hB W_meets_38 rfl ?_
      refine kw_iload hB W_meets_40 rfl ?_
      refine kn_icmp_ge hB W_meets_42 (by omega) (by omega) (fun hc => absurd hc (by omega)) (fun hc => ?_)
      refine kw_lload_n hB W_meets_45 rfl ?_
      refine kw_iload hB W_meets_46 rfl ?_
      refine kw_iload hB W_meets_48 rfl ?_
      refine kw_callS hB W_meets_50 s_W_21 st_W_letterAt (As := [.long (lN w), .int (nI (jlen w)), .int (nI i)]) (c_W_letterAt l D g hw (by omega) (by omega)) rfl (by decide) (Nat.le_of_ble_eq_true rfl) (by omega) (by omega) (fun r X1 hq hl => ?_)
      obtain ⟨rfl, hxeq⟩ := hq
      obtain rfl := hxeq.symm
      have hd := jdig_lt w (jlen w) i
      refine kw_callS hB W_meets_53 s_W_39 st_W_symbol (As := [.int (nI (if i < jlen w then jdig w (jlen w) i else 0))]) (c_W_symbol l D g (by split <;> omega)) rfl (by decide) (Nat.le_of_ble_eq_true rfl) (by omega) (by omega) (fun r X1 hq hl => ?_)
      obtain ⟨rfl, hxeq⟩ := hq
      obtain rfl := hxeq.symm
      refine kw_iload_n hB W_meets_56 rfl ?_
      have hsl : jsym (if i < jlen w then jdig w (jlen w) i else 0) < 2 ^ 31 := by unfold jsym; split <;> omega
      refine kn_icmp_ne hB W_meets_57 hsl (by omega) (fun hx => ?_) (fun hx => ?_)
      · refine kn_iinc hB W_meets_62 rfl (by decide) rfl ?_
        refine kw_goto hB W_meets_65 ?_
        refine ih (i + 1) j0 to fr (by omega) ht ?_
        rw [← he]
        constructor
        · rintro ⟨j, h1, h2⟩
          exact ⟨j, by omega, h2⟩
        · rintro ⟨j, h1, h2, h3, h4⟩
          refine ⟨j, ?_, h2, h3, h4⟩
          by_cases hji : j = i
          · subst hji; rw [if_pos h3] at hx; exact absurd h4 hx
          · omega
      · refine kw_iconst hB W_meets_60 (v := nI 1) (by decide) ?_
        refine kw_zret hF rfl (by first | rfl | decide) W_meets_61 ?_ (by first | (simp [jLs_len]; done) | (simp [*]; done))
        refine ⟨?_, rfl⟩
        have hil : i < jlen w := by
          by_cases h : i < jlen w
          · exact h
          · rw [if_neg h] at hx
            have : jsym 0 = 0 := rfl
            omega
        rw [if_pos hil] at hx
        rw [he.mp ⟨i, by omega, by omega, hil, hx⟩]
        rfl
  have start : ∀ fr : Int32, (k = 2 → fr = nI (jlen w) - nI 1) → (k ≠ 2 → fr = nI 0) → K 19 [.long (lN w), .retAddr 0, .int (nI k), .int (nI s), .int (nI (jlen w)), .retAddr 0, .retAddr 0, .retAddr 0] [.int fr] X 0 0 := by
    intro fr hf2 hf0
    refine kw_istore hB W_meets_19 (by decide) rfl ?_
    refine kw_iload_n hB W_meets_21 rfl ?_
    refine kw_iconst hB W_meets_22 (v := nI 1) (by decide) ?_
    refine kn_icmp_ne hB W_meets_23 (by omega) (by decide) (fun h1 => ?_) (fun h1 => ?_)
    · refine kw_iload hB W_meets_30 rfl ?_
      refine kw_istore hB W_meets_32 (by decide) rfl ?_
      refine kw_iload hB W_meets_34 rfl ?_
      refine kw_istore hB W_meets_36 (by decide) rfl ?_
      by_cases h2 : k = 2
      · rw [hf2 h2]
        by_cases h0 : jlen w = 0
        · -- from -1 to 0: the one letter that is asked is none
          have hneg : nI (jlen w) - nI 1 < 0 := by rw [h0]; decide
          have hlw : jlen w < 2 ^ 31 := by omega
          refine kw_iload hB W_meets_38 rfl ?_
          refine kw_iload hB W_meets_40 rfl ?_
          refine kw_icmp_ge hB W_meets_42 (fun hc => absurd hc (by rw [h0]; decide)) (fun hc => ?_)
          refine kw_lload_n hB W_meets_45 rfl ?_
          refine kw_iload hB W_meets_46 rfl ?_
          refine kw_iload hB W_meets_48 rfl ?_
          refine kw_callS hB W_meets_50 s_W_21 st_W_letterAt (As := [.long (lN w), .int (nI (jlen w)), .int (nI (jlen w) - nI 1)]) (c_W_letterAt_neg l D g hneg) rfl (by decide) (Nat.le_of_ble_eq_true rfl) (by omega) (by omega) (fun r X1 hq hl => ?_)
          obtain ⟨rfl, hxeq⟩ := hq
          obtain rfl := hxeq.symm
          refine kw_callS hB W_meets_53 s_W_39 st_W_symbol (As := [.int (nI 0)]) (c_W_symbol l D g (by decide)) rfl (by decide) (Nat.le_of_ble_eq_true rfl) (by omega) (by omega) (fun r X1 hq hl => ?_)
          obtain ⟨rfl, hxeq⟩ := hq
          obtain rfl := hxeq.symm
          refine kw_iload_n hB W_meets_56 rfl ?_
          refine kn_icmp_ne hB W_meets_57 (by decide) (by omega) (fun hx => ?_) (fun hx => absurd hx (by have : jsym 0 = 0 := rfl; omega))
          refine kw_iinc hB W_meets_62 rfl (v := nI 0) (by rw [h0]; decide) (by decide) rfl ?_
          refine kw_goto hB W_meets_65 ?_
          refine loop 0 0 0 (jlen w) _ (by omega) (Or.inl (Nat.le_refl _)) ?_
          have : jmeet w k s = false := by unfold jmeet; rw [if_neg (by omega), if_neg (by omega)]; simp [h0]
          rw [this]
          simp
          intro j hj
          omega
        · rw [pk_sub (by omega)]
          refine loop 1 (jlen w - 1) 0 (jlen w) _ (by omega) (Or.inl (Nat.le_refl _)) ?_
          unfold jmeet
          rw [if_neg (by omega), if_neg (by omega), decide_eq_true_eq]
          constructor
          · rintro ⟨j, j1, j2, j3, j4⟩
            rw [show jlen w - 1 = j by omega]
            exact ⟨by omega, j4⟩
          · rintro ⟨j1, j2⟩
            exact ⟨jlen w - 1, by omega, by omega, by omega, j2⟩
      · rw [hf0 h2]
        refine loop (jlen w) 0 0 (jlen w) _ (by omega) (Or.inl (Nat.le_refl _)) ?_
        unfold jmeet
        rw [if_pos (by omega), decide_eq_true_eq]
        constructor
        · rintro ⟨j, j1, j2, j3, j4⟩; exact ⟨j, j3, j4⟩
        · rintro ⟨j, j1, j2⟩; exact ⟨j, by omega, j1, j1, j2⟩
    · refine kw_iconst hB W_meets_26 (v := nI 1) (by decide) ?_
      refine kw_goto hB W_meets_27 ?_
      refine kw_istore hB W_meets_32 (by decide) rfl ?_
      refine kw_iload hB W_meets_34 rfl ?_
      refine kw_istore hB W_meets_36 (by decide) rfl ?_
      rw [hf0 (by omega)]
      refine loop 1 0 0 1 _ (by omega) (Or.inr rfl) ?_
      unfold jmeet
      rw [if_neg (by omega), if_pos h1, decide_eq_true_eq]
      constructor
      · rintro ⟨j, j1, j2, j3, j4⟩
        rw [show j = 0 by omega] at j4
        exact ⟨by omega, j4⟩
      · rintro ⟨j1, j2⟩; exact ⟨0, by omega, by omega, j1, j2⟩
  refine kw_lload_n hB W_meets_0 rfl ?_
  refine kw_callS hB W_meets_1 s_W_17 st_W_length (As := [.long (lN w)]) (c_W_length l D g hw) rfl (by decide) (Nat.le_of_ble_eq_true rfl) (by omega) (by omega) (fun r X1 hq hl => ?_)
  obtain ⟨rfl, hxeq⟩ := hq
  obtain rfl := hxeq.symm
  refine kw_istore hB W_meets_4 (by decide) rfl ?_
  refine kw_iload_n hB W_meets_6 rfl ?_
  refine kw_iconst hB W_meets_7 (v := nI 2) (by decide) ?_
  refine kn_icmp_ne hB W_meets_8 (by omega) (by decide) (fun hc => ?_) (fun hc => ?_)
  · refine kw_iconst hB W_meets_18 (v := nI 0) (by decide) ?_
    exact start _ (fun h => absurd h hc) (fun _ => rfl)
  · refine kw_iload hB W_meets_11 rfl ?_
    refine kw_iconst hB W_meets_13 (v := nI 1) (by decide) ?_
    refine kw_isub hB W_meets_14 ?_
    refine kw_goto hB W_meets_15 ?_
    exact start _ (fun _ => rfl) (fun h => absurd hc h)
end JW3
