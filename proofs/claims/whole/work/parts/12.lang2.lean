-- Language: isEmpty, hasGood, isSame, copy, becomeEmpty, becomeAllOf
def jallk (S : Nat) (f : Nat → Int32) (k : Nat) : Nat → Int32 := fun j => if j < k then nI (if S.testBit j then 0 else 1) else if 8 ≤ j ∧ j < 8 + k then nI 1 else f j
theorem jallk_0 (S : Nat) (f : Nat → Int32) : jallk S f 0 = f := by
  funext j; simp only [jallk]; rw [if_neg (by omega), if_neg (by omega)]
theorem jallk_s (S : Nat) (f : Nat → Int32) {k : Nat} (hk : k < 8) : upd (upd (jallk S f k) k (nI (if S.testBit k then 0 else 1))) (8 + k) (nI 1) = jallk S f (k + 1) := by
  funext j
  simp only [upd, jallk]
  grind
section JL2
variable (l : Launch) (D : va_G) (g : Nat × Nat)
set_option maxHeartbeats 4000000 in
set_option maxRecDepth 100000 in
theorem c_L_isEmpty {X : ja_H} {q n gd : Nat} {f : Nat → Int32} (h : jLr X q (nI n) (nI gd) f) (hn : n < 2 ^ 31) (hg : gd < 2 ^ 31) : AMet l D g 0 0 0 m_L_isEmpty [.ref q] X (fun r X' => r = some (.int (nI (decide (n = 1 ∧ gd = 0)).toNat)) ∧ X' = X) := by
  obtain ⟨h1, h2⟩ := h
  refine ja_metK (by decide) rfl (Nat.le_of_ble_eq_true rfl) fun K hB hF => ?_
  refine kw_aload_n hB L_isEmpty_0 rfl ?_
  refine kw_getf hB L_isEmpty_1 f_L_19 (by assumption) rfl ?_
  refine kw_iconst hB L_isEmpty_4 (v := nI 1) (by decide) ?_
  refine kn_icmp_ne hB L_isEmpty_5 (by omega) (by omega) (fun hc => ?_) (fun hc => ?_)
  · refine kw_iconst hB L_isEmpty_19 (v := nI 0) (by decide) ?_
    refine kw_zret hF rfl (by first | rfl | decide) L_isEmpty_20 ?_ (by first | (simp [jLs_len]; done) | (simp [*]; done))
    exact ⟨by rw [decide_eq_false (fun z => hc z.1)]; rfl, rfl⟩
  · refine kw_aload_n hB L_isEmpty_8 rfl ?_
    refine kw_getf hB L_isEmpty_9 f_L_15 (by assumption) rfl ?_
    refine kn_if_ne hB L_isEmpty_12 hg (fun hd => ?_) (fun hd => ?_)
    · refine kw_iconst hB L_isEmpty_19 (v := nI 0) (by decide) ?_
      refine kw_zret hF rfl (by first | rfl | decide) L_isEmpty_20 ?_ (by first | (simp [jLs_len]; done) | (simp [*]; done))
      exact ⟨by rw [decide_eq_false (fun z => hd z.2)]; rfl, rfl⟩
    · refine kw_iconst hB L_isEmpty_15 (v := nI 1) (by decide) ?_
      refine kw_goto hB L_isEmpty_16 ?_
      refine kw_zret hF rfl (by first | rfl | decide) L_isEmpty_20 ?_ (by first | (simp [jLs_len]; done) | (simp [*]; done))
      exact ⟨by rw [decide_eq_true ⟨hc, hd⟩]; rfl, rfl⟩
set_option maxHeartbeats 4000000 in
set_option maxRecDepth 100000 in
theorem c_L_hasGood {X : ja_H} {q gd S : Nat} {n : Int32} {f : Nat → Int32} (h : jLr X q n (nI gd) f) (hg : gd < 2 ^ 31) : AMet l D g 0 0 0 m_L_hasGood [.ref q, .int (nI S)] X (fun r X' => r = some (.int (nI (decide (gd &&& S ≠ 0)).toNat)) ∧ X' = X) := by
  obtain ⟨h1, h2⟩ := h
  refine ja_metK (by decide) rfl (Nat.le_of_ble_eq_true rfl) fun K hB hF => ?_
  refine kw_aload_n hB L_hasGood_0 rfl ?_
  refine kw_getf hB L_hasGood_1 f_L_15 (by assumption) rfl ?_
  refine kw_iload_n hB L_hasGood_4 rfl ?_
  refine kn_iand hB L_hasGood_5 ?_
  refine kn_if_eq hB L_hasGood_6 (Nat.lt_of_le_of_lt Nat.and_le_left hg) (fun hc => ?_) (fun hc => ?_)
  · refine kw_iconst hB L_hasGood_13 (v := nI 0) (by decide) ?_
    refine kw_zret hF rfl (by first | rfl | decide) L_hasGood_14 ?_ (by first | (simp [jLs_len]; done) | (simp [*]; done))
    exact ⟨by rw [decide_eq_false (fun z => z hc)]; rfl, rfl⟩
  · refine kw_iconst hB L_hasGood_9 (v := nI 1) (by decide) ?_
    refine kw_goto hB L_hasGood_10 ?_
    refine kw_zret hF rfl (by first | rfl | decide) L_hasGood_14 ?_ (by first | (simp [jLs_len]; done) | (simp [*]; done))
    exact ⟨by rw [decide_eq_true hc]; rfl, rfl⟩
set_option maxHeartbeats 4000000 in
set_option maxRecDepth 100000 in
theorem c_L_copy {X : ja_H} {q p n2 : Nat} {n gd g2 : Int32} {f f2 : Nat → Int32} (h : jLr X q n gd f) (hp : jLr X p (nI n2) g2 f2) (hqp : q ≠ p) (hn : n2 ≤ 24) : AMet l D g 1 0 0 m_L_copy [.ref q, .ref p] X (fun r X' => r = none ∧ X' = jLs X q (nI n2) g2 (va_cpy f2 f 0 0 (n2 * 8))) := by
  have hlt := h.lt
  have hb := hp.off (n2 := nI n2) (g2 := g2) (f2 := f2) h (Ne.symm hqp)
  refine ja_metK (by decide) rfl (Nat.le_of_ble_eq_true rfl) fun K hB hF => ?_
  have o1 := h.off (n2 := nI n2) (g2 := gd) (f2 := f) hp hqp
  have o2 := h.off (n2 := nI n2) (g2 := g2) (f2 := f) hp hqp
  have r1 := jLs_r (nI n2) gd f hlt
  have r2 := jLs_r (nI n2) g2 f hlt
  refine kw_aload_n hB L_copy_0 rfl ?_
  refine kw_aload_n hB L_copy_1 rfl ?_
  refine kw_getf hB L_copy_2 f_L_19 hp.1 rfl ?_
  refine kw_putf hB L_copy_5 f_L_19 jc_L jw_L_0 h.1 (Nat.le_of_ble_eq_true rfl) rfl rfl ?_
  show K 8 _ _ (X.set q (.inr (0, [.int (nI n2), .int gd, .ref (q + 1)]))) _ _
  rw [h.put]
  refine kw_aload_n hB L_copy_8 rfl ?_
  refine kw_aload_n hB L_copy_9 rfl ?_
  refine kw_getf hB L_copy_10 f_L_15 o1.1 rfl ?_
  refine kw_putf hB L_copy_13 f_L_15 jc_L jw_L_1 r1.1 (Nat.le_of_ble_eq_true rfl) rfl rfl ?_
  show K 16 _ _ ((jLs X q (nI n2) gd f).set q (.inr (0, [.int (nI n2), .int g2, .ref (q + 1)]))) _ _
  rw [r1.put, jLs_s _ _ _ _ _ _ hlt]
  refine kw_aload_n hB L_copy_16 rfl ?_
  refine kw_getf hB L_copy_17 f_L_11 o2.1 rfl ?_
  refine kw_iconst hB L_copy_20 (v := nI 0) (by decide) ?_
  refine kw_aload_n hB L_copy_21 rfl ?_
  refine kw_getf hB L_copy_22 f_L_11 r2.1 rfl ?_
  refine kw_iconst hB L_copy_25 (v := nI 0) (by decide) ?_
  refine kw_aload_n hB L_copy_26 rfl ?_
  refine kw_getf hB L_copy_27 f_L_19 r2.1 rfl ?_
  refine kw_bipush hB L_copy_30 (v := nI 8) (by decide) ?_
  refine kn_imul hB L_copy_32 ?_
  refine kw_copyi (n := n2 * 8) (sp := 0) (dp := 0) hB L_copy_33 (jm 526 (by decide +kernel) rfl) o2.2 r2.2 rfl rfl (by decide) (by decide) (by omega) (by omega) (fun i hi => rfl) (by decide) (by decide) ?_
  rw [r2.wr, jLs_s _ _ _ _ _ _ hlt]
  refine kw_vret hF rfl L_copy_36 ?_ (by first | (simp [jLs_len]; done) | (simp [*]; done))
  exact ⟨rfl, rfl⟩
set_option maxHeartbeats 4000000 in
set_option maxRecDepth 100000 in
theorem c_L_isSame {X : ja_H} {q p n : Nat} {n2 gd g2 : Int32} {f f2 : Nat → Int32} (h : jLr X q (nI n) gd f) (hp : jLr X p n2 g2 f2) (hn : n ≤ 24) : AMet l D g 0 0 0 m_L_isSame [.ref q, .ref p] X (fun r X' => (∃ b : Bool, r = some (.int (nI b.toNat)) ∧ (b = true ↔ nI n = n2 ∧ gd = g2 ∧ ∀ i, i < n * 8 → f i = f2 i)) ∧ X' = X) := by
  obtain ⟨h1, h2⟩ := h
  obtain ⟨p1, p2⟩ := hp
  refine ja_metK (by decide) rfl (Nat.le_of_ble_eq_true rfl) fun K hB hF => ?_
  refine kw_aload_n hB L_isSame_0 rfl ?_
  refine kw_getf hB L_isSame_1 f_L_19 h1 rfl ?_
  refine kw_aload_n hB L_isSame_4 rfl ?_
  refine kw_getf hB L_isSame_5 f_L_19 p1 rfl ?_
  refine kw_icmp_ne hB L_isSame_8 (fun hc => ?_) (fun hc => ?_)
  · refine kw_iconst hB L_isSame_22 (v := nI 0) (by decide) ?_
    refine kw_zret hF rfl (by first | rfl | decide) L_isSame_23 ?_ (by first | (simp [jLs_len]; done) | (simp [*]; done))
    exact ⟨⟨false, rfl, by simp; intro z; exact absurd z hc⟩, rfl⟩
  refine kw_aload_n hB L_isSame_11 rfl ?_
  refine kw_getf hB L_isSame_12 f_L_15 h1 rfl ?_
  refine kw_aload_n hB L_isSame_15 rfl ?_
  refine kw_getf hB L_isSame_16 f_L_15 p1 rfl ?_
  refine kw_icmp_eq hB L_isSame_19 (fun hd => ?_) (fun hd => ?_)
  rotate_left
  · refine kw_iconst hB L_isSame_22 (v := nI 0) (by decide) ?_
    refine kw_zret hF rfl (by first | rfl | decide) L_isSame_23 ?_ (by first | (simp [jLs_len]; done) | (simp [*]; done))
    exact ⟨⟨false, rfl, by simp; intro _ z; exact absurd z hd⟩, rfl⟩
  have loop : ∀ k i, i + k = n * 8 → (∀ j, j < i → f j = f2 j) → K 26 [.ref q, .ref p, .int (nI i)] [] X 0 0 := by
    intro k
    induction k with
    | zero =>
      intro i hi hj
      refine kw_iload_n hB L_isSame_26 rfl ?_
      refine kw_aload_n hB L_isSame_27 rfl ?_
      refine kw_getf hB L_isSame_28 f_L_19 h1 rfl ?_
      refine kw_bipush hB L_isSame_31 (v := nI 8) (by decide) ?_
      refine kn_imul hB L_isSame_33 ?_
      refine kn_icmp_ge hB L_isSame_34 (by omega) (by omega) (fun hc2 => ?_) (fun hc2 => absurd hc2 (by omega))
      refine kw_iconst hB L_isSame_60 (v := nI 1) (by decide) ?_
      refine kw_zret hF rfl (by first | rfl | decide) L_isSame_61 ?_ (by first | (simp [jLs_len]; done) | (simp [*]; done))
      exact ⟨⟨true, rfl, by simp; exact ⟨hc, hd, fun j hj2 => hj j (by omega)⟩⟩, rfl⟩
    | succ k ih =>
      intro i hi hj
      refine kw_iload_n hB L_isSame_26 rfl ?_
      refine kw_aload_n hB L_isSame_27 rfl ?_
      refine kw_getf hB L_isSame_28 f_L_19 h1 rfl ?_
      refine kw_bipush hB L_isSame_31 (v := nI 8) (by decide) ?_
      refine kn_imul hB L_isSame_33 ?_
      refine kn_icmp_ge hB L_isSame_34 (by omega) (by omega) (fun hc => absurd hc (by omega)) (fun hc => ?_)
      refine kw_aload_n hB L_isSame_37 rfl ?_
      refine kw_getf hB L_isSame_38 f_L_11 h1 rfl ?_
      refine kw_iload_n hB L_isSame_41 rfl ?_
      refine kn_iald hB L_isSame_42 h2 rfl (by omega) (by first | decide | omega) ?_
      refine kw_aload_n hB L_isSame_43 rfl ?_
      refine kw_getf hB L_isSame_44 f_L_11 p1 rfl ?_
      refine kw_iload_n hB L_isSame_47 rfl ?_
      refine kn_iald hB L_isSame_48 p2 rfl (by omega) (by first | decide | omega) ?_
      refine kw_icmp_eq hB L_isSame_49 (fun he => ?_) (fun he => ?_)
      · refine kn_iinc hB L_isSame_54 rfl (by decide) rfl ?_
        refine kw_goto hB L_isSame_57 ?_
        refine ih (i + 1) (by omega) (fun j hj2 => ?_)
        by_cases hji : j = i
        · rw [hji]; exact he
        · exact hj j (by omega)
      · refine kw_iconst hB L_isSame_52 (v := nI 0) (by decide) ?_
        refine kw_zret hF rfl (by first | rfl | decide) L_isSame_53 ?_ (by first | (simp [jLs_len]; done) | (simp [*]; done))
        exact ⟨⟨false, rfl, by simp; intro _ _; exact ⟨i, by omega, he⟩⟩, rfl⟩
  refine kw_iconst hB L_isSame_24 (v := nI 0) (by decide) ?_
  refine kw_istore_n hB L_isSame_25 rfl (by decide) rfl ?_
  exact loop (n * 8) 0 (by omega) (fun j hj => absurd hj (by omega))
set_option maxHeartbeats 4000000 in
set_option maxRecDepth 100000 in
theorem c_L_becomeEmpty {X : ja_H} {q : Nat} {n gd : Int32} {f : Nat → Int32} (h : jLr X q n gd f) : AMet l D g 2 0 0 m_L_becomeEmpty [.ref q] X (fun r X' => r = none ∧ X' = jLs X q (nI 1) (nI 0) (jfl f 0 8 (nI 0))) := by
  have hlt := h.lt
  refine ja_metK (by decide) rfl (Nat.le_of_ble_eq_true rfl) fun K hB hF => ?_
  have r1 := jLs_r (nI 1) (nI 0) f hlt
  refine kw_aload_n hB L_becomeEmpty_0 rfl ?_
  refine kw_iconst hB L_becomeEmpty_1 (v := nI 1) (by decide) ?_
  refine kw_iconst hB L_becomeEmpty_2 (v := nI 0) (by decide) ?_
  refine kw_callV hB L_becomeEmpty_3 s_L_46 im_L_begin se_L_begin h.1 rfl rfl (As := [.int (nI 1), .int (nI 0)]) (c_L_begin l D g h) rfl (by decide) (Nat.le_of_ble_eq_true rfl) (by omega) (by omega) (fun r X1 hq hl => ?_)
  obtain ⟨rfl, rfl⟩ := hq
  refine kw_aload_n hB L_becomeEmpty_6 rfl ?_
  refine kw_getf hB L_becomeEmpty_7 f_L_11 r1.1 rfl ?_
  refine kw_iconst hB L_becomeEmpty_10 (v := nI 0) (by decide) ?_
  refine kw_bipush hB L_becomeEmpty_11 (v := nI 8) (by decide) ?_
  refine kw_iconst hB L_becomeEmpty_13 (v := nI 0) (by decide) ?_
  refine kw_callS hB L_becomeEmpty_14 s_L_50 st_J_fillR (As := [.ref (q + 1), .int (nI 0), .int (nI 8), .int (nI 0)]) (c_J_fillR l D g r1.2 (by decide) (by decide) (by decide)) rfl (by decide) (Nat.le_of_ble_eq_true rfl) (by omega) (by omega) (fun r X1 hq hl => ?_)
  obtain ⟨rfl, rfl⟩ := hq
  rw [r1.wr, jLs_s _ _ _ _ _ _ hlt]
  refine kw_vret hF rfl L_becomeEmpty_17 ?_ (by first | (simp [jLs_len]; done) | (simp [*]; done))
  exact ⟨rfl, rfl⟩
set_option maxHeartbeats 4000000 in
set_option maxRecDepth 100000 in
theorem c_L_becomeAllOf {X : ja_H} {q S : Nat} {n gd : Int32} {f : Nat → Int32} (h : jLr X q n gd f) (hS : S < 256) : AMet l D g 1 0 0 m_L_becomeAllOf [.ref q, .int (nI S)] X (fun r X' => r = none ∧ X' = jLs X q (nI (if S = 255 then 1 else 2)) (nI 1) (jallk S f 8)) := by
  have hlt := h.lt
  refine ja_metK (by decide) rfl (Nat.le_of_ble_eq_true rfl) fun K hB hF => ?_
  have loop : ∀ (N : Int32) k i, i + k = 8 → K 19 [.ref q, .int (nI S), .int (nI (i + 1))] [] (jLs X q N (nI 1) (jallk S f i)) 0 0 → True := fun _ _ _ _ _ => trivial
  clear loop
  have loop : ∀ (N : Int32), N = nI (if S = 255 then 1 else 2) → ∀ k i, i + k = 8 → K 19 [.ref q, .int (nI S), .int (nI (i + 1))] [] (jLs X q N (nI 1) (jallk S f i)) 0 0 := by
    intro N hN k
    induction k with
    | zero =>
      intro i hi
      refine kw_iload_n hB L_becomeAllOf_19 rfl ?_
      refine kw_bipush hB L_becomeAllOf_20 (v := nI 8) (by decide) ?_
      refine kn_icmp_gt hB L_becomeAllOf_22 (by omega) (by omega) (fun hc => ?_) (fun hc => absurd hc (by omega))
      refine kw_vret hF rfl L_becomeAllOf_60 ?_ (by first | (simp [jLs_len]; done) | (simp [*]; done))
      refine ⟨rfl, ?_⟩
      rw [hN, show i = 8 by omega]
    | succ k ih =>
      intro i hi
      have r1 := jLs_r N (nI 1) (jallk S f i) hlt
      refine kw_iload_n hB L_becomeAllOf_19 rfl ?_
      refine kw_bipush hB L_becomeAllOf_20 (v := nI 8) (by decide) ?_
      refine kn_icmp_gt hB L_becomeAllOf_22 (by omega) (by omega) (fun hc => absurd hc (by omega)) (fun hc => ?_)
      refine kw_aload_n hB L_becomeAllOf_25 rfl ?_
      refine kw_iconst hB L_becomeAllOf_26 (v := nI 0) (by decide) ?_
      refine kw_iload_n hB L_becomeAllOf_27 rfl ?_
      refine kw_iload_n hB L_becomeAllOf_28 rfl ?_
      refine kw_iload_n hB L_becomeAllOf_29 rfl ?_
      refine kw_iconst hB L_becomeAllOf_30 (v := nI 1) (by decide) ?_
      refine kn_isub hB L_becomeAllOf_31 (by omega) ?_
      rw [show i + 1 - 1 = i by omega]
      refine kn_ishr hB L_becomeAllOf_32 (by omega) (by omega) ?_
      refine kw_iconst hB L_becomeAllOf_33 (v := nI 1) (by decide) ?_
      refine kn_iand hB L_becomeAllOf_34 ?_
      rw [Nat.and_one_is_mod, jb_bit]
      refine kw_iconst hB L_becomeAllOf_35 (v := nI 1) (by decide) ?_
      have after : K 44 [.ref q, .int (nI S), .int (nI (i + 1))] [.int (nI (if S.testBit i then 0 else 1)), .int (nI (i + 1)), .int (nI 0), .ref q] (jLs X q N (nI 1) (jallk S f i)) 0 0 := by
        refine kw_callV hB L_becomeAllOf_44 s_L_56 im_L_lead se_L_lead r1.1 rfl rfl (As := [.int (nI 0), .int (nI (i + 1)), .int (nI (if S.testBit i then 0 else 1))]) (c_L_lead l D g r1 (by omega) (by omega)) rfl (by decide) (Nat.le_of_ble_eq_true rfl) (by omega) (by omega) (fun r X1 hq hl => ?_)
        obtain ⟨rfl, rfl⟩ := hq
        rw [show 0 * 8 + (i + 1) - 1 = i by omega, jLs_s _ _ _ _ _ _ hlt]
        have r2 := jLs_r N (nI 1) (upd (jallk S f i) i (nI (if S.testBit i then 0 else 1))) hlt
        refine kw_aload_n hB L_becomeAllOf_47 rfl ?_
        refine kw_iconst hB L_becomeAllOf_48 (v := nI 1) (by decide) ?_
        refine kw_iload_n hB L_becomeAllOf_49 rfl ?_
        refine kw_iconst hB L_becomeAllOf_50 (v := nI 1) (by decide) ?_
        refine kw_callV hB L_becomeAllOf_51 s_L_56 im_L_lead se_L_lead r2.1 rfl rfl (As := [.int (nI 1), .int (nI (i + 1)), .int (nI 1)]) (c_L_lead l D g r2 (by omega) (by omega)) rfl (by decide) (Nat.le_of_ble_eq_true rfl) (by omega) (by omega) (fun r X1 hq hl => ?_)
        obtain ⟨rfl, rfl⟩ := hq
        rw [show 1 * 8 + (i + 1) - 1 = 8 + i by omega, jLs_s _ _ _ _ _ _ hlt, jallk_s S f (by omega)]
        refine kn_iinc hB L_becomeAllOf_54 rfl (by decide) rfl ?_
        refine kw_goto hB L_becomeAllOf_57 ?_
        exact ih (i + 1) (by omega)
      refine kn_icmp_ne hB L_becomeAllOf_36 (by split <;> decide) (by decide) (fun hc => ?_) (fun hc => ?_)
      · refine kw_iconst hB L_becomeAllOf_43 (v := nI 1) (by decide) ?_
        rw [if_neg (by intro z; rw [if_pos z] at hc; exact hc rfl)] at after
        exact after
      · refine kw_iconst hB L_becomeAllOf_39 (v := nI 0) (by decide) ?_
        refine kw_goto hB L_becomeAllOf_40 ?_
        rw [if_pos (by cases hb : S.testBit i with | true => rfl | false => rw [hb] at hc; cases hc)] at after
        exact after
  refine kw_aload_n hB L_becomeAllOf_0 rfl ?_
  refine kw_iload_n hB L_becomeAllOf_1 rfl ?_
  refine kw_sipush hB L_becomeAllOf_2 (v := nI 255) (by decide) ?_
  have begin : ∀ (N : Int32), N = nI (if S = 255 then 1 else 2) → K 13 [.ref q, .int (nI S), .retAddr 0] [.int N, .ref q] X 0 0 := by
    intro N hN
    refine kw_iconst hB L_becomeAllOf_13 (v := nI 1) (by decide) ?_
    refine kw_callV hB L_becomeAllOf_14 s_L_46 im_L_begin se_L_begin h.1 rfl rfl (As := [.int N, .int (nI 1)]) (c_L_begin l D g h) rfl (by decide) (Nat.le_of_ble_eq_true rfl) (by omega) (by omega) (fun r X1 hq hl => ?_)
    obtain ⟨rfl, rfl⟩ := hq
    refine kw_iconst hB L_becomeAllOf_17 (v := nI 1) (by decide) ?_
    refine kw_istore_n hB L_becomeAllOf_18 rfl (by decide) rfl ?_
    have := loop N hN 8 0 (by omega)
    rw [jallk_0] at this
    exact this
  refine kn_icmp_ne hB L_becomeAllOf_5 (by omega) (by omega) (fun hc => ?_) (fun hc => ?_)
  · refine kw_iconst hB L_becomeAllOf_12 (v := nI 2) (by decide) ?_
    exact begin _ (by rw [if_neg hc])
  · refine kw_iconst hB L_becomeAllOf_8 (v := nI 1) (by decide) ?_
    refine kw_goto hB L_becomeAllOf_9 ?_
    exact begin _ (by rw [if_pos hc])
end JL2
