-- the model: the rules GUARD, KEEP
theorem jGn_eq {x : Nat → Nat} {k c : Nat} (hk : k ≠ 72) (h1 : 1 ≤ c) (h8 : c ≤ 8) : jGn x k c = if k % 3 = 0 then (if c < 5 then x (k / 3 * 8 + c - 1) * 3 else if c < 7 then 72 else k + c - 6) else if ((c = 5 ∨ c = 7) ∧ k % 3 = 1) ∨ ((c = 6 ∨ c = 8) ∧ k % 3 = 2) then x (k / 3 * 8 + c - 1) * 3 else 72 := by
  unfold jGn jsym jtnt
  rw [if_neg hk]
  rcases (by omega : c = 1 ∨ c = 2 ∨ c = 3 ∨ c = 4 ∨ c = 5 ∨ c = 6 ∨ c = 7 ∨ c = 8) with rfl | rfl | rfl | rfl | rfl | rfl | rfl | rfl <;> rcases (by omega : k % 3 = 0 ∨ k % 3 = 1 ∨ k % 3 = 2) with hm | hm | hm <;> simp [hm] <;> omega
theorem jmt_lt (k s c q : Nat) : jmt k s c q < 3 := by
  unfold jmt
  repeat' split
  all_goals omega
section JML2
variable (l : Launch) (D : va_G) (g : Nat × Nat) {X : ja_H} {s st gd tb : Nat → Int32}
set_option maxHeartbeats 4000000 in
set_option maxRecDepth 100000 in
theorem c_M_guarded {p k c : Nat} {L : jLan} (h : jTr X s st gd tb) (hp : s 19 = nI p) (hp43 : p < 43) (hL : jAt st gd tb p L) (hk : k ≤ 72) (hk2 : k = 72 ∨ k / 3 < L.1) (h1 : 1 ≤ c) (h8 : c ≤ 8) : AMet l D g 1 0 0 m_M_guarded [.ref 145, .int (nI k), .int (nI c)] X (fun r X' => r = some (.int (nI (jGn (jXf L) k c))) ∧ X' = X) := by
  refine ja_metK (by decide) rfl (Nat.le_of_ble_eq_true rfl) fun K hB hF => ?_
  refine kw_iload_n hB M_guarded_0 rfl ?_
  refine kw_iconst hB M_guarded_1 (v := nI 3) (by decide) ?_
  refine kn_irem hB M_guarded_2 (by omega) (by decide) (by decide) ?_
  refine kw_istore_n hB M_guarded_3 rfl (by decide) rfl ?_
  refine kw_iload_n hB M_guarded_4 rfl ?_
  refine kw_bipush hB M_guarded_5 (v := nI 72) (by decide) ?_
  refine kn_icmp_ne hB M_guarded_7 (by omega) (by decide) (fun h72 => ?_) (fun h72 => ?_)
  rotate_left
  · refine kw_bipush hB M_guarded_10 (v := nI 72) (by decide) ?_
    refine kw_iret hF rfl M_guarded_12 ?_ (by first | (simp [jLs_len]; done) | (simp [*]; done))
    exact ⟨by unfold jGn; rw [if_pos h72], rfl⟩
  rw [jGn_eq h72 h1 h8] at hF
  have hkl := hk2.resolve_left h72
  refine kw_iload_n hB M_guarded_13 rfl ?_
  refine kn_if_ne hB M_guarded_14 (by omega) (fun hm => ?_) (fun hm => ?_)
  · rw [if_neg hm] at hF
    have yes : ((c = 5 ∨ c = 7) ∧ k % 3 = 1) ∨ ((c = 6 ∨ c = 8) ∧ k % 3 = 2) → K 90 [.ref 145, .int (nI k), .int (nI c), .int (nI (k % 3))] [] X 0 0 := by
      intro hy
      rw [if_pos hy] at hF
      refine kw_iconst hB M_guarded_90 (v := nI 3) (by decide) ?_
      refine kw_aload_n hB M_guarded_91 rfl ?_
      refine kw_aload_n hB M_guarded_92 rfl ?_
      refine kw_getf hB M_guarded_93 f_M_123 h.1 rfl ?_
      refine kw_iload_n hB M_guarded_96 rfl ?_
      refine kw_iconst hB M_guarded_97 (v := nI 3) (by decide) ?_
      refine kn_idiv hB M_guarded_98 (by omega) (by decide) (by decide) ?_
      refine kw_iload_n hB M_guarded_99 rfl ?_
      rw [hp]
      refine kw_callV hB M_guarded_100 s_M_119 im_M_step se_M_step h.1 rfl rfl (As := [.int (nI p), .int (nI (k / 3)), .int (nI c)]) (c_M_step l D g h hL hp43 hkl h1 h8) rfl (by decide) (Nat.le_of_ble_eq_true rfl) (by omega) (by omega) (fun r X1 hq hl => ?_)
      obtain ⟨rfl, hxeq⟩ := hq
      obtain rfl := hxeq.symm
      refine kn_imul hB M_guarded_103 ?_
      refine kw_goto hB M_guarded_104 ?_
      refine kw_iret hF rfl M_guarded_109 ⟨by rw [Nat.mul_comm], rfl⟩ (by simp)
    have no : ¬ (((c = 5 ∨ c = 7) ∧ k % 3 = 1) ∨ ((c = 6 ∨ c = 8) ∧ k % 3 = 2)) → K 107 [.ref 145, .int (nI k), .int (nI c), .int (nI (k % 3))] [] X 0 0 := by
      intro hy
      rw [if_neg hy] at hF
      refine kw_bipush hB M_guarded_107 (v := nI 72) (by decide) ?_
      refine kw_iret hF rfl M_guarded_109 ⟨rfl, rfl⟩ (by simp)
    have b73 : ¬ ((c = 5 ∨ c = 7) ∧ k % 3 = 1) → K 73 [.ref 145, .int (nI k), .int (nI c), .int (nI (k % 3))] [] X 0 0 := by
      intro hy
      have b85 : (c = 6 ∨ c = 8) → K 85 [.ref 145, .int (nI k), .int (nI c), .int (nI (k % 3))] [] X 0 0 := by
        intro h68
        refine kw_iload_n hB M_guarded_85 rfl ?_
        refine kw_iconst hB M_guarded_86 (v := nI 2) (by decide) ?_
        refine kn_icmp_ne hB M_guarded_87 (by omega) (by decide) (fun z => no (by omega)) (fun z => yes (Or.inr ⟨h68, z⟩))
      refine kw_iload_n hB M_guarded_73 rfl ?_
      refine kw_bipush hB M_guarded_74 (v := nI 6) (by decide) ?_
      refine kn_icmp_eq hB M_guarded_76 (by omega) (by decide) (fun z => b85 (Or.inl z)) (fun z => ?_)
      refine kw_iload_n hB M_guarded_79 rfl ?_
      refine kw_bipush hB M_guarded_80 (v := nI 8) (by decide) ?_
      refine kn_icmp_ne hB M_guarded_82 (by omega) (by decide) (fun z2 => no (by omega)) (fun z2 => b85 (Or.inr z2))
    have b68 : (c = 5 ∨ c = 7) → K 68 [.ref 145, .int (nI k), .int (nI c), .int (nI (k % 3))] [] X 0 0 := by
      intro h57
      refine kw_iload_n hB M_guarded_68 rfl ?_
      refine kw_iconst hB M_guarded_69 (v := nI 1) (by decide) ?_
      refine kn_icmp_eq hB M_guarded_70 (by omega) (by decide) (fun z => yes (Or.inl ⟨h57, z⟩)) (fun z => b73 (fun q => z q.2))
    refine kw_iload_n hB M_guarded_57 rfl ?_
    refine kw_iconst hB M_guarded_58 (v := nI 5) (by decide) ?_
    refine kn_icmp_eq hB M_guarded_59 (by omega) (by decide) (fun z => b68 (Or.inl z)) (fun z => ?_)
    refine kw_iload_n hB M_guarded_62 rfl ?_
    refine kw_bipush hB M_guarded_63 (v := nI 7) (by decide) ?_
    refine kn_icmp_ne hB M_guarded_65 (by omega) (by decide) (fun z2 => b73 (by omega)) (fun z2 => b68 (Or.inr z2))
  · rw [if_pos hm] at hF
    refine kw_iload_n hB M_guarded_17 rfl ?_
    refine kw_iconst hB M_guarded_18 (v := nI 5) (by decide) ?_
    refine kn_icmp_ge hB M_guarded_19 (by omega) (by decide) (fun hc => ?_) (fun hc => ?_)
    · rw [if_neg (by omega)] at hF
      refine kw_iload_n hB M_guarded_39 rfl ?_
      refine kw_bipush hB M_guarded_40 (v := nI 7) (by decide) ?_
      refine kn_icmp_ge hB M_guarded_42 (by omega) (by decide) (fun hc2 => ?_) (fun hc2 => ?_)
      · rw [if_neg (by omega)] at hF
        refine kw_iload_n hB M_guarded_50 rfl ?_
        refine kw_iload_n hB M_guarded_51 rfl ?_
        refine kn_iadd hB M_guarded_52 ?_
        refine kw_bipush hB M_guarded_53 (v := nI 6) (by decide) ?_
        refine kn_isub hB M_guarded_55 (by omega) ?_
        refine kw_iret hF rfl M_guarded_56 ⟨rfl, rfl⟩ (by simp)
      · rw [if_pos hc2] at hF
        refine kw_bipush hB M_guarded_45 (v := nI 72) (by decide) ?_
        refine kw_goto hB M_guarded_47 ?_
        refine kw_iret hF rfl M_guarded_56 ⟨rfl, rfl⟩ (by simp)
    · rw [if_pos hc] at hF
      refine kw_iconst hB M_guarded_22 (v := nI 3) (by decide) ?_
      refine kw_aload_n hB M_guarded_23 rfl ?_
      refine kw_aload_n hB M_guarded_24 rfl ?_
      refine kw_getf hB M_guarded_25 f_M_123 h.1 rfl ?_
      refine kw_iload_n hB M_guarded_28 rfl ?_
      refine kw_iconst hB M_guarded_29 (v := nI 3) (by decide) ?_
      refine kn_idiv hB M_guarded_30 (by omega) (by decide) (by decide) ?_
      refine kw_iload_n hB M_guarded_31 rfl ?_
      rw [hp]
      refine kw_callV hB M_guarded_32 s_M_119 im_M_step se_M_step h.1 rfl rfl (As := [.int (nI p), .int (nI (k / 3)), .int (nI c)]) (c_M_step l D g h hL hp43 hkl h1 h8) rfl (by decide) (Nat.le_of_ble_eq_true rfl) (by omega) (by omega) (fun r X1 hq hl => ?_)
      obtain ⟨rfl, hxeq⟩ := hq
      obtain rfl := hxeq.symm
      refine kn_imul hB M_guarded_35 ?_
      refine kw_goto hB M_guarded_36 ?_
      refine kw_iret hF rfl M_guarded_56 ⟨by rw [Nat.mul_comm], rfl⟩ (by simp)
set_option maxHeartbeats 4000000 in
set_option maxRecDepth 100000 in
theorem jRu_GUARD {p : Nat} {L : jLan} (hw : s 18 = nI 0) (hp : s 19 = nI p) (hp43 : p < 43) (hp41 : p ≠ 41) (hL : jAt st gd tb p L) : jRu l D g (fun k => k ≤ 72 ∧ (k = 72 ∨ k / 3 < L.1)) 0 (jGn (jXf L)) (jGg L.2.1) s st gd tb := by
  have h24 := hL.1.2.2.1
  have h1' := hL.1.2.1
  refine ⟨⟨by omega, by omega⟩, fun k c hk h1 h8 => ?_, fun k hk => by omega, fun X s' st' gd' tb' h hs e1 e2 e3 => ?_⟩
  · by_cases hk72 : k = 72
    · unfold jGn; rw [if_pos hk72]; omega
    · have e1 := hL.1.2.2.2.2.1 (k / 3 * 8 + c - 1) (by omega)
      rw [jGn_eq hk72 h1 h8]
      repeat' split
      all_goals omega
  have hw' := (hs 18 (by decide) (by decide)).trans hw
  have hp' := (hs 19 (by decide) (by decide)).trans hp
  have hL' := hL.mv hp41 e1 e2 e3
  refine ⟨?_, fun k hk => ?_, fun k c hk h1 h8 => ?_⟩
  · refine ja_metK (by decide) rfl (Nat.le_of_ble_eq_true rfl) fun K hB hF => ?_
    refine kw_aload_n hB M_first_0 rfl ?_
    refine kw_getf hB M_first_1 f_M_132 h.1 rfl ?_
    rw [hw']
    refine kw_iconst hB M_first_4 (v := nI 1) (by decide) ?_
    refine kn_icmp_ne hB M_first_5 (by decide) (by decide) (fun _ => ?_) (fun z => absurd z (by decide))
    refine kw_aload_n hB M_first_14 rfl ?_
    refine kw_getf hB M_first_15 f_M_132 h.1 rfl ?_
    rw [hw']
    refine kw_iconst hB M_first_18 (v := nI 2) (by decide) ?_
    refine kn_icmp_ne hB M_first_19 (by decide) (by decide) (fun _ => ?_) (fun z => absurd z (by decide))
    refine kw_aload_n hB M_first_24 rfl ?_
    refine kw_getf hB M_first_25 f_M_132 h.1 rfl ?_
    rw [hw']
    refine kw_iconst hB M_first_28 (v := nI 3) (by decide) ?_
    refine kn_icmp_ne hB M_first_29 (by decide) (by decide) (fun _ => ?_) (fun z => absurd z (by decide))
    -- now at 48
    refine kw_iconst hB M_first_48 (v := nI 0) (by decide) ?_
    refine kw_iret hF rfl M_first_49 ?_ (by first | (simp [jLs_len]; done) | (simp [*]; done))
    exact ⟨rfl, rfl⟩
  · refine ja_metK (by decide) rfl (Nat.le_of_ble_eq_true rfl) fun K hB hF => ?_
    have no : jGg L.2.1 k = false → K 37 [.ref 145, .int (nI k)] [] X 0 0 := by
      intro hno
      refine kw_iconst hB M_mayEnd_37 (v := nI 0) (by decide) ?_
      refine kw_zret hF rfl (by first | rfl | decide) M_mayEnd_38 ?_ (by first | (simp [jLs_len]; done) | (simp [*]; done))
      exact ⟨by rw [hno]; rfl, rfl⟩
    refine kw_aload_n hB M_mayEnd_0 rfl ?_
    refine kw_getf hB M_mayEnd_1 f_M_132 h.1 rfl ?_
    rw [hw']
    refine kn_if_ne hB M_mayEnd_4 (by decide) (fun z => absurd rfl z) (fun _ => ?_)
    -- now at 7
    refine kw_iload_n hB M_mayEnd_7 rfl ?_
    refine kw_bipush hB M_mayEnd_8 (v := nI 72) (by decide) ?_
    refine kn_icmp_ge hB M_mayEnd_10 (by omega) (by decide) (fun hz => no ?_) (fun hz => ?_)
    · unfold jGg; rw [decide_eq_false (show ¬ k ≠ 72 by omega)]; rfl
    refine kw_iload_n hB M_mayEnd_13 rfl ?_
    refine kw_iconst hB M_mayEnd_14 (v := nI 3) (by decide) ?_
    refine kn_irem hB M_mayEnd_15 (by omega) (by decide) (by decide) ?_
    refine kn_if_ne hB M_mayEnd_16 (by omega) (fun hm => no ?_) (fun hm => ?_)
    · unfold jGg; rw [decide_eq_false hm, Bool.and_false]; rfl
    have hkl : k / 3 < L.1 := hk.2.resolve_left (by omega)
    refine kw_aload_n hB M_mayEnd_19 rfl ?_
    refine kw_aload_n hB M_mayEnd_20 rfl ?_
    refine kw_getf hB M_mayEnd_21 f_M_123 h.1 rfl ?_
    refine kw_iload_n hB M_mayEnd_24 rfl ?_
    refine kw_iconst hB M_mayEnd_25 (v := nI 3) (by decide) ?_
    refine kn_idiv hB M_mayEnd_26 (by omega) (by decide) (by decide) ?_
    rw [hp']
    refine kw_callV hB M_mayEnd_27 s_M_139 im_M_takes se_M_takes h.1 rfl rfl (As := [.int (nI p), .int (nI (k / 3))]) (c_M_takes l D g h hL' hp43 (by omega)) rfl (by decide) (Nat.le_of_ble_eq_true rfl) (by omega) (by omega) (fun r X1 hq hl => ?_)
    obtain ⟨rfl, hxeq⟩ := hq
    obtain rfl := hxeq.symm
    refine kn_if_eq hB M_mayEnd_30 (by cases L.2.1.testBit (k / 3) <;> decide) (fun z => no ?_) (fun z => ?_)
    · unfold jGg; rw [jb_f z, Bool.and_false]
    · refine kw_iconst hB M_mayEnd_33 (v := nI 1) (by decide) ?_
      refine kw_goto hB M_mayEnd_34 ?_
      refine kw_zret hF rfl (by first | rfl | decide) M_mayEnd_38 ?_ (by first | (simp [jLs_len]; done) | (simp [*]; done))
      exact ⟨by unfold jGg; rw [jb_t z, decide_eq_true hm, decide_eq_true (show k ≠ 72 by omega)]; rfl, rfl⟩
  · refine ja_metK (by decide) rfl (Nat.le_of_ble_eq_true rfl) fun K hB hF => ?_
    refine kw_aload_n hB M_next_0 rfl ?_
    refine kw_getf hB M_next_1 f_M_132 h.1 rfl ?_
    rw [hw']
    refine kn_if_ne hB M_next_4 (by decide) (fun z => absurd rfl z) (fun _ => ?_)
    -- now at 7
    refine kw_aload_n hB M_next_7 rfl ?_
    refine kw_iload_n hB M_next_8 rfl ?_
    refine kw_iload_n hB M_next_9 rfl ?_
    refine kw_callV hB M_next_10 s_M_148 im_M_guarded se_M_guarded h.1 rfl rfl (As := [.int (nI k), .int (nI c)]) (c_M_guarded l D g h hp' hp43 hL' hk.1 hk.2 h1 h8) rfl (by decide) (Nat.le_of_ble_eq_true rfl) (by omega) (by omega) (fun r X1 hq hl => ?_)
    obtain ⟨rfl, hxeq⟩ := hq
    obtain rfl := hxeq.symm
    refine kw_iret hF rfl M_next_13 ⟨rfl, rfl⟩ (by simp)
set_option maxHeartbeats 4000000 in
set_option maxRecDepth 100000 in
theorem c_M_fits {kd sy q c : Nat} (h : jTr X s st gd tb) (hk : s 21 = nI kd) (hy : s 22 = nI sy) (hk3 : kd < 3) (hs4 : sy ≤ 4) (hq3 : q < 3) (hq2 : q = 2 → kd = 1) (h1 : 1 ≤ c) (h8 : c ≤ 8) : AMet l D g 0 0 0 m_M_fits [.ref 145, .int (nI q), .int (nI c)] X (fun r X' => r = some (.int (nI (jmt kd sy c q))) ∧ X' = X) := by
  refine ja_metK (by decide) rfl (Nat.le_of_ble_eq_true rfl) fun K hB hF => ?_
  have b18 : ∀ b : Bool, (b = true ↔ jsym c = sy) → K 18 [.ref 145, .int (nI q), .int (nI c), .int (nI b.toNat)] [] X 0 0 := by
    intro b hb
    have val : ∀ r : Nat, r = jmt kd sy c q → (some (Value.int (nI r)) : Option Value) = some (Value.int (nI (jmt kd sy c q))) := fun r hr => by rw [hr]
    refine kw_aload_n hB M_fits_18 rfl ?_
    refine kw_getf hB M_fits_19 f_M_145 h.1 rfl ?_
    rw [hk]
    refine kn_if_ne hB M_fits_22 (by omega) (fun hk0 => ?_) (fun hk0 => ?_)
    · refine kw_aload_n hB M_fits_40 rfl ?_
      refine kw_getf hB M_fits_41 f_M_145 h.1 rfl ?_
      refine kw_iconst hB M_fits_44 (v := nI 1) (by decide) ?_
      rw [hk]
      refine kn_icmp_ne hB M_fits_45 (by omega) (by decide) (fun hk1 => ?_) (fun hk1 => ?_)
      · refine kw_iload_n hB M_fits_66 rfl ?_
        refine kn_if_eq hB M_fits_67 (by cases b <;> decide) (fun z => ?_) (fun z => ?_)
        · refine kw_iconst hB M_fits_74 (v := nI 0) (by decide) ?_
          refine kw_iret hF rfl M_fits_75 ?_ (by first | (simp [jLs_len]; done) | (simp [*]; done))
          refine ⟨val 0 ?_, rfl⟩
          have : ¬ jsym c = sy := fun w => by rw [hb.mpr w] at z; exact absurd z (by decide)
          unfold jmt
          rcases (by omega : q = 0 ∨ q = 1) with rfl | rfl
          · rw [if_pos rfl, if_neg this, if_neg hk1]
          · rw [if_neg (by decide), if_pos rfl, if_neg (by omega)]
        · refine kw_iconst hB M_fits_70 (v := nI 1) (by decide) ?_
          refine kw_goto hB M_fits_71 ?_
          refine kw_iret hF rfl M_fits_75 ?_ (by first | (simp [jLs_len]; done) | (simp [*]; done))
          refine ⟨val 1 ?_, rfl⟩
          have : jsym c = sy := hb.mp (jb_t z)
          unfold jmt
          rcases (by omega : q = 0 ∨ q = 1) with rfl | rfl
          · rw [if_pos rfl, if_pos this]
          · rw [if_neg (by decide), if_pos rfl, if_pos (Or.inl this)]
      · refine kw_iload_n hB M_fits_48 rfl ?_
        refine kw_if_le hB M_fits_49 (fun hq0 => ?_) (fun hq0 => ?_)
        · have hq0 : q = 0 := by have := (nI_leI (b := 0) (by omega) (by decide)).mp hq0; omega
          subst hq0
          refine kw_iload_n hB M_fits_56 rfl ?_
          refine kn_if_eq hB M_fits_57 (by cases b <;> decide) (fun z => ?_) (fun z => ?_)
          · refine kw_iconst hB M_fits_64 (v := nI 2) (by decide) ?_
            refine kw_iret hF rfl M_fits_65 ?_ (by first | (simp [jLs_len]; done) | (simp [*]; done))
            refine ⟨val 2 ?_, rfl⟩
            have : ¬ jsym c = sy := fun w => by rw [hb.mpr w] at z; exact absurd z (by decide)
            unfold jmt
            rw [if_pos rfl, if_neg this, if_pos hk1]
          · refine kw_iconst hB M_fits_60 (v := nI 1) (by decide) ?_
            refine kw_goto hB M_fits_61 ?_
            refine kw_iret hF rfl M_fits_65 ?_ (by first | (simp [jLs_len]; done) | (simp [*]; done))
            refine ⟨val 1 ?_, rfl⟩
            unfold jmt
            rw [if_pos rfl, if_pos (hb.mp (jb_t z))]
        · have hq0 : q ≠ 0 := fun z => hq0 (by rw [z]; decide)
          refine kw_iload_n hB M_fits_52 rfl ?_
          refine kw_goto hB M_fits_53 ?_
          refine kw_iret hF rfl M_fits_65 ?_ (by first | (simp [jLs_len]; done) | (simp [*]; done))
          refine ⟨val q ?_, rfl⟩
          unfold jmt
          rcases (by omega : q = 1 ∨ q = 2) with rfl | rfl
          · rw [if_neg (by decide), if_pos rfl, if_pos (Or.inr (by omega))]
          · rw [if_neg (by decide), if_neg (by decide)]
    · subst hk0
      have hq01 : q = 0 ∨ q = 1 := by omega
      have yes : (q = 1 ∨ jsym c = sy) → K 34 [.ref 145, .int (nI q), .int (nI c), .int (nI b.toNat)] [] X 0 0 := by
        intro hy2
        refine kw_iconst hB M_fits_34 (v := nI 1) (by decide) ?_
        refine kw_goto hB M_fits_35 ?_
        refine kw_iret hF rfl M_fits_39 ?_ (by first | (simp [jLs_len]; done) | (simp [*]; done))
        refine ⟨val 1 ?_, rfl⟩
        unfold jmt
        rcases hq01 with rfl | rfl
        · rw [if_pos rfl, if_pos (hy2.resolve_left (by decide))]
        · rw [if_neg (by decide), if_pos rfl, if_pos (Or.inr (by decide))]
      refine kw_iload_n hB M_fits_25 rfl ?_
      refine kw_iconst hB M_fits_26 (v := nI 1) (by decide) ?_
      refine kn_icmp_eq hB M_fits_27 (by omega) (by decide) (fun z => yes (Or.inl z)) (fun z => ?_)
      refine kw_iload_n hB M_fits_30 rfl ?_
      refine kn_if_eq hB M_fits_31 (by cases b <;> decide) (fun z2 => ?_) (fun z2 => yes (Or.inr (hb.mp (jb_t z2))))
      refine kw_iconst hB M_fits_38 (v := nI 0) (by decide) ?_
      refine kw_iret hF rfl M_fits_39 ?_ (by first | (simp [jLs_len]; done) | (simp [*]; done))
      refine ⟨val 0 ?_, rfl⟩
      have : ¬ jsym c = sy := fun w => by rw [hb.mpr w] at z2; exact absurd z2 (by decide)
      have hq0 : q = 0 := by omega
      subst hq0
      unfold jmt
      rw [if_pos rfl, if_neg this, if_neg (by decide)]
  refine kw_iload_n hB M_fits_0 rfl ?_
  refine kw_iconst hB M_fits_1 (v := nI 1) (by decide) ?_
  refine kn_iadd hB M_fits_2 ?_
  refine kw_iconst hB M_fits_3 (v := nI 2) (by decide) ?_
  refine kn_idiv hB M_fits_4 (by omega) (by decide) (by decide) ?_
  refine kw_aload_n hB M_fits_5 rfl ?_
  refine kw_getf hB M_fits_6 f_M_142 h.1 rfl ?_
  rw [hy]
  refine kn_icmp_ne hB M_fits_9 (by omega) (by omega) (fun z => ?_) (fun z => ?_)
  · refine kw_iconst hB M_fits_16 (v := nI 0) (by decide) ?_
    refine kw_istore_n hB M_fits_17 rfl (by decide) rfl ?_
    exact b18 false ⟨fun w => (by cases w), fun w => absurd w z⟩
  · refine kw_iconst hB M_fits_12 (v := nI 1) (by decide) ?_
    refine kw_goto hB M_fits_13 ?_
    refine kw_istore_n hB M_fits_17 rfl (by decide) rfl ?_
    exact b18 true ⟨fun _ => z, fun _ => rfl⟩
set_option maxHeartbeats 4000000 in
set_option maxRecDepth 100000 in
theorem jRu_KEEP {p kd sy : Nat} {b : Bool} {L : jLan} (hw : s 18 = nI 5) (hp : s 19 = nI p) (hk : s 21 = nI kd) (hy : s 22 = nI sy) (hb : s 23 = nI b.toNat) (hk3 : kd < 3) (hs4 : sy ≤ 4) (hp43 : p < 43) (hp41 : p ≠ 41) (hL : jAt st gd tb p L) : jRu l D g (fun k => k / 3 < L.1 ∧ (k % 3 = 2 → kd = 1)) 0 (fun k c => jXf L (k / 3 * 8 + c - 1) * 3 + jmt kd sy c (k % 3)) (fun k => L.2.1.testBit (k / 3) && (decide (k % 3 = 1) != b)) s st gd tb := by
  have h24 := hL.1.2.2.1
  have h1' := hL.1.2.1
  have jl : ∀ c q, jmt kd sy c q < 3 := fun c q => jmt_lt kd sy c q
  have j2 : ∀ c q, (q = 2 → kd = 1) → q < 3 → jmt kd sy c q = 2 → kd = 1 := fun c q h1 hq h2 => by
    unfold jmt at h2
    by_cases h0 : q = 0
    · rw [if_pos h0] at h2
      by_cases hs' : jsym c = sy
      · rw [if_pos hs'] at h2; omega
      · rw [if_neg hs'] at h2
        by_cases hk1 : kd = 1
        · exact hk1
        · rw [if_neg hk1] at h2; omega
    · rw [if_neg h0] at h2
      by_cases h11 : q = 1
      · rw [if_pos h11] at h2; split at h2 <;> omega
      · exact h1 (by omega)
  refine ⟨⟨by omega, by omega⟩, fun k c hk h1 h8 => ?_, fun k hk => by omega, fun X s' st' gd' tb' h hs e1 e2 e3 => ?_⟩
  · have a1 := hL.1.2.2.2.2.1 (k / 3 * 8 + c - 1) (by omega)
    have a2 := jl c (k % 3)
    have a3 := j2 c (k % 3) hk.2 (by omega)
    refine ⟨?_, fun z => a3 ?_⟩
    · show (jXf L (k / 3 * 8 + c - 1) * 3 + jmt kd sy c (k % 3)) / 3 < L.1; omega
    · have z : (jXf L (k / 3 * 8 + c - 1) * 3 + jmt kd sy c (k % 3)) % 3 = 2 := z
      omega
  have hw' := (hs 18 (by decide) (by decide)).trans hw
  have hp' := (hs 19 (by decide) (by decide)).trans hp
  have hk' := (hs 21 (by decide) (by decide)).trans hk
  have hy' := (hs 22 (by decide) (by decide)).trans hy
  have hb' := (hs 23 (by decide) (by decide)).trans hb
  have hL' := hL.mv hp41 e1 e2 e3
  refine ⟨?_, fun k hk => ?_, fun k c hk h1 h8 => ?_⟩
  · refine ja_metK (by decide) rfl (Nat.le_of_ble_eq_true rfl) fun K hB hF => ?_
    refine kw_aload_n hB M_first_0 rfl ?_
    refine kw_getf hB M_first_1 f_M_132 h.1 rfl ?_
    rw [hw']
    refine kw_iconst hB M_first_4 (v := nI 1) (by decide) ?_
    refine kn_icmp_ne hB M_first_5 (by decide) (by decide) (fun _ => ?_) (fun z => absurd z (by decide))
    refine kw_aload_n hB M_first_14 rfl ?_
    refine kw_getf hB M_first_15 f_M_132 h.1 rfl ?_
    rw [hw']
    refine kw_iconst hB M_first_18 (v := nI 2) (by decide) ?_
    refine kn_icmp_ne hB M_first_19 (by decide) (by decide) (fun _ => ?_) (fun z => absurd z (by decide))
    refine kw_aload_n hB M_first_24 rfl ?_
    refine kw_getf hB M_first_25 f_M_132 h.1 rfl ?_
    rw [hw']
    refine kw_iconst hB M_first_28 (v := nI 3) (by decide) ?_
    refine kn_icmp_ne hB M_first_29 (by decide) (by decide) (fun _ => ?_) (fun z => absurd z (by decide))
    -- now at 48
    refine kw_iconst hB M_first_48 (v := nI 0) (by decide) ?_
    refine kw_iret hF rfl M_first_49 ?_ (by first | (simp [jLs_len]; done) | (simp [*]; done))
    exact ⟨rfl, rfl⟩
  · refine ja_metK (by decide) rfl (Nat.le_of_ble_eq_true rfl) fun K hB hF => ?_
    have hk15 : k < 2 ^ 31 := by omega
    have no : (L.2.1.testBit (k / 3) && (decide (k % 3 = 1) != b)) = false → K 195 [.ref 145, .int (nI k)] [] X 0 0 := by
      intro hno
      refine kw_iconst hB M_mayEnd_195 (v := nI 0) (by decide) ?_
      refine kw_zret hF rfl (by first | rfl | decide) M_mayEnd_196 ?_ (by first | (simp [jLs_len]; done) | (simp [*]; done))
      exact ⟨by show _ = some (Value.int (nI (L.2.1.testBit (k / 3) && (decide (k % 3 = 1) != b)).toNat)); rw [hno]; rfl, rfl⟩
    refine kw_aload_n hB M_mayEnd_0 rfl ?_
    refine kw_getf hB M_mayEnd_1 f_M_132 h.1 rfl ?_
    rw [hw']
    refine kn_if_ne hB M_mayEnd_4 (by decide) (fun _ => ?_) (fun z => absurd z (by decide))
    refine kw_aload_n hB M_mayEnd_39 rfl ?_
    refine kw_getf hB M_mayEnd_40 f_M_132 h.1 rfl ?_
    rw [hw']
    refine kw_iconst hB M_mayEnd_43 (v := nI 1) (by decide) ?_
    refine kn_icmp_eq hB M_mayEnd_44 (by decide) (by decide) (fun z => absurd z (by decide)) (fun _ => ?_)
    refine kw_aload_n hB M_mayEnd_47 rfl ?_
    refine kw_getf hB M_mayEnd_48 f_M_132 h.1 rfl ?_
    rw [hw']
    refine kw_iconst hB M_mayEnd_51 (v := nI 2) (by decide) ?_
    refine kn_icmp_ne hB M_mayEnd_52 (by decide) (by decide) (fun _ => ?_) (fun z => absurd z (by decide))
    refine kw_aload_n hB M_mayEnd_75 rfl ?_
    refine kw_getf hB M_mayEnd_76 f_M_132 h.1 rfl ?_
    rw [hw']
    refine kw_iconst hB M_mayEnd_79 (v := nI 3) (by decide) ?_
    refine kn_icmp_ne hB M_mayEnd_80 (by decide) (by decide) (fun _ => ?_) (fun z => absurd z (by decide))
    refine kw_aload_n hB M_mayEnd_106 rfl ?_
    refine kw_getf hB M_mayEnd_107 f_M_132 h.1 rfl ?_
    rw [hw']
    refine kw_iconst hB M_mayEnd_110 (v := nI 4) (by decide) ?_
    refine kn_icmp_ne hB M_mayEnd_111 (by decide) (by decide) (fun _ => ?_) (fun z => absurd z (by decide))
    refine kw_aload_n hB M_mayEnd_150 rfl ?_
    refine kw_getf hB M_mayEnd_151 f_M_132 h.1 rfl ?_
    rw [hw']
    refine kw_iconst hB M_mayEnd_154 (v := nI 5) (by decide) ?_
    refine kn_icmp_ne hB M_mayEnd_155 (by decide) (by decide) (fun z => absurd rfl z) (fun _ => ?_)
    -- now at 158
    refine kw_aload_n hB M_mayEnd_158 rfl ?_
    refine kw_aload_n hB M_mayEnd_159 rfl ?_
    refine kw_getf hB M_mayEnd_160 f_M_123 h.1 rfl ?_
    refine kw_iload_n hB M_mayEnd_163 rfl ?_
    refine kw_iconst hB M_mayEnd_164 (v := nI 3) (by decide) ?_
    refine kn_idiv hB M_mayEnd_165 (by omega) (by decide) (by decide) ?_
    rw [hp']
    refine kw_callV hB M_mayEnd_166 s_M_139 im_M_takes se_M_takes h.1 rfl rfl (As := [.int (nI p), .int (nI (k / 3))]) (c_M_takes l D g h hL' hp43 (by omega)) rfl (by decide) (Nat.le_of_ble_eq_true rfl) (by omega) (by omega) (fun r X1 hq hl => ?_)
    obtain ⟨rfl, hxeq⟩ := hq
    obtain rfl := hxeq.symm
    refine kn_if_eq hB M_mayEnd_169 (by cases L.2.1.testBit (k / 3) <;> decide) (fun z => no (by rw [jb_f z]; rfl)) (fun z => ?_)
    have tail : ∀ d : Bool, d = decide (k % 3 = 1) → K 184 [.ref 145, .int (nI k)] [.int (nI d.toNat)] X 0 0 := by
      intro d hd
      refine kw_aload_n hB M_mayEnd_184 rfl ?_
      refine kw_getf hB M_mayEnd_185 f_M_167 h.1 rfl ?_
      rw [hb']
      refine kn_icmp_eq hB M_mayEnd_188 (by cases d <;> decide) (by cases b <;> decide) (fun z2 => no ?_) (fun z2 => ?_)
      · rw [← hd]
        have : d = b := by cases d <;> cases b <;> first | rfl | exact absurd z2 (by decide)
        rw [this]; simp
      · refine kw_iconst hB M_mayEnd_191 (v := nI 1) (by decide) ?_
        refine kw_goto hB M_mayEnd_192 ?_
        refine kw_zret hF rfl (by first | rfl | decide) M_mayEnd_196 ?_ (by first | (simp [jLs_len]; done) | (simp [*]; done))
        refine ⟨?_, rfl⟩
        show _ = some (Value.int (nI (L.2.1.testBit (k / 3) && (decide (k % 3 = 1) != b)).toNat))
        rw [← hd, jb_t z]
        have : (d != b) = true := by cases d <;> cases b <;> first | rfl | exact absurd rfl z2
        rw [this]; rfl
    refine kw_iload_n hB M_mayEnd_172 rfl ?_
    refine kw_iconst hB M_mayEnd_173 (v := nI 3) (by decide) ?_
    refine kn_irem hB M_mayEnd_174 (by omega) (by decide) (by decide) ?_
    refine kw_iconst hB M_mayEnd_175 (v := nI 1) (by decide) ?_
    refine kn_icmp_ne hB M_mayEnd_176 (by omega) (by decide) (fun z2 => ?_) (fun z2 => ?_)
    · refine kw_iconst hB M_mayEnd_183 (v := nI 0) (by decide) ?_
      exact tail false (decide_eq_false z2).symm
    · refine kw_iconst hB M_mayEnd_179 (v := nI 1) (by decide) ?_
      refine kw_goto hB M_mayEnd_180 ?_
      exact tail true (decide_eq_true z2).symm
  · refine ja_metK (by decide) rfl (Nat.le_of_ble_eq_true rfl) fun K hB hF => ?_
    have hk15 : k < 2 ^ 31 := by omega
    refine kw_aload_n hB M_next_0 rfl ?_
    refine kw_getf hB M_next_1 f_M_132 h.1 rfl ?_
    rw [hw']
    refine kn_if_ne hB M_next_4 (by decide) (fun _ => ?_) (fun z => absurd z (by decide))
    refine kw_aload_n hB M_next_14 rfl ?_
    refine kw_getf hB M_next_15 f_M_132 h.1 rfl ?_
    rw [hw']
    refine kw_iconst hB M_next_18 (v := nI 1) (by decide) ?_
    refine kn_icmp_ne hB M_next_19 (by decide) (by decide) (fun _ => ?_) (fun z => absurd z (by decide))
    refine kw_aload_n hB M_next_52 rfl ?_
    refine kw_getf hB M_next_53 f_M_132 h.1 rfl ?_
    rw [hw']
    refine kw_iconst hB M_next_56 (v := nI 2) (by decide) ?_
    refine kn_icmp_ne hB M_next_57 (by decide) (by decide) (fun _ => ?_) (fun z => absurd z (by decide))
    refine kw_aload_n hB M_next_67 rfl ?_
    refine kw_getf hB M_next_68 f_M_132 h.1 rfl ?_
    rw [hw']
    refine kw_iconst hB M_next_71 (v := nI 3) (by decide) ?_
    refine kn_icmp_ne hB M_next_72 (by decide) (by decide) (fun _ => ?_) (fun z => absurd z (by decide))
    refine kw_aload_n hB M_next_126 rfl ?_
    refine kw_getf hB M_next_127 f_M_132 h.1 rfl ?_
    rw [hw']
    refine kw_iconst hB M_next_130 (v := nI 4) (by decide) ?_
    refine kn_icmp_ne hB M_next_131 (by decide) (by decide) (fun _ => ?_) (fun z => absurd z (by decide))
    refine kw_aload_n hB M_next_165 rfl ?_
    refine kw_getf hB M_next_166 f_M_132 h.1 rfl ?_
    rw [hw']
    refine kw_iconst hB M_next_169 (v := nI 5) (by decide) ?_
    refine kn_icmp_ne hB M_next_170 (by decide) (by decide) (fun z => absurd rfl z) (fun _ => ?_)
    -- now at 173
    refine kw_iconst hB M_next_173 (v := nI 3) (by decide) ?_
    refine kw_aload_n hB M_next_174 rfl ?_
    refine kw_aload_n hB M_next_175 rfl ?_
    refine kw_getf hB M_next_176 f_M_123 h.1 rfl ?_
    refine kw_iload_n hB M_next_179 rfl ?_
    refine kw_iconst hB M_next_180 (v := nI 3) (by decide) ?_
    refine kn_idiv hB M_next_181 (by omega) (by decide) (by decide) ?_
    refine kw_iload_n hB M_next_182 rfl ?_
    rw [hp']
    refine kw_callV hB M_next_183 s_M_119 im_M_step se_M_step h.1 rfl rfl (As := [.int (nI p), .int (nI (k / 3)), .int (nI c)]) (c_M_step l D g h hL' hp43 hk.1 h1 h8) rfl (by decide) (Nat.le_of_ble_eq_true rfl) (by omega) (by omega) (fun r X1 hq hl => ?_)
    obtain ⟨rfl, hxeq⟩ := hq
    obtain rfl := hxeq.symm
    refine kn_imul hB M_next_186 ?_
    refine kw_aload_n hB M_next_187 rfl ?_
    refine kw_iload_n hB M_next_188 rfl ?_
    refine kw_iconst hB M_next_189 (v := nI 3) (by decide) ?_
    refine kn_irem hB M_next_190 (by omega) (by decide) (by decide) ?_
    refine kw_iload_n hB M_next_191 rfl ?_
    refine kw_callV hB M_next_192 s_M_158 im_M_fits se_M_fits h.1 rfl rfl (As := [.int (nI (k % 3)), .int (nI c)]) (c_M_fits l D g h hk' hy' hk3 hs4 (by omega) hk.2 h1 h8) rfl (by decide) (Nat.le_of_ble_eq_true rfl) (by omega) (by omega) (fun r X1 hq hl => ?_)
    obtain ⟨rfl, hxeq⟩ := hq
    obtain rfl := hxeq.symm
    refine kn_iadd hB M_next_195 ?_
    refine kw_iret hF rfl M_next_196 ⟨by rw [Nat.mul_comm 3], rfl⟩ (by simp)
end JML2
theorem jKeep_run {L : jLan} {kd sy : Nat} (hL : jOk L) : ∀ (w : List Nat), jok w → ∀ a q, a < L.1 → q < 3 → jkr (fun k c => jXf L (k / 3 * 8 + c - 1) * 3 + jmt kd sy c (k % 3)) (a * 3 + q) w = jgo (jXf L) a w * 3 + jgo (jmx kd sy) q w ∧ jgo (jmx kd sy) q w < 3 := by
  intro w
  induction w with
  | nil => intro _ a q _ hq; exact ⟨rfl, hq⟩
  | cons c w ih =>
    intro hw a q ha hq
    obtain ⟨hc, hw'⟩ := jok_cons.mp hw
    have h1 : jXf L (a * 8 + c) < L.1 := hL.2.2.2.2.1 _ (by omega)
    have h2 := jmx_lt kd sy (q * 8 + c)
    have := ih hw' (jXf L (a * 8 + c)) (jmx kd sy (q * 8 + c)) h1 h2
    have e : (fun k c => jXf L (k / 3 * 8 + c - 1) * 3 + jmt kd sy c (k % 3)) (a * 3 + q) (c + 1) = jXf L (a * 8 + c) * 3 + jmx kd sy (q * 8 + c) := by
      show jXf L ((a * 3 + q) / 3 * 8 + (c + 1) - 1) * 3 + jmt kd sy (c + 1) ((a * 3 + q) % 3) = _
      unfold jmx
      rw [show (a * 3 + q) / 3 = a by omega, show (a * 3 + q) % 3 = q by omega, show a * 8 + (c + 1) - 1 = a * 8 + c by omega, show (q * 8 + c) % 8 + 1 = c + 1 by omega, show (q * 8 + c) / 8 = q by omega]
    show jkr (fun k c => jXf L (k / 3 * 8 + c - 1) * 3 + jmt kd sy c (k % 3)) ((fun k c => jXf L (k / 3 * 8 + c - 1) * 3 + jmt kd sy c (k % 3)) (a * 3 + q) (c + 1)) w = jgo (jXf L) (jXf L (a * 8 + c)) w * 3 + jgo (jmx kd sy) (jmx kd sy (q * 8 + c)) w ∧ jgo (jmx kd sy) (jmx kd sy (q * 8 + c)) w < 3
    rw [e]
    exact this
/-- KEEP writes what the class keeps -/
theorem jKeep_mk {L : jLan} {kd sy : Nat} {b : Bool} (hL : jOk L) : jMk (fun w => (fun k => L.2.1.testBit (k / 3) && (decide (k % 3 = 1) != b)) (jkr (fun k c => jXf L (k / 3 * 8 + c - 1) * 3 + jmt kd sy c (k % 3)) 0 w)) = jKpL L kd sy (!b) := by
  unfold jKpL
  refine jMk_congr (fun w hw => ?_)
  obtain ⟨h1, h2⟩ := jKeep_run (kd := kd) (sy := sy) hL w hw 0 0 hL.2.1 (by decide)
  rw [show 0 * 3 + 0 = 0 from rfl] at h1
  show (L.2.1.testBit (jkr (fun k c => jXf L (k / 3 * 8 + c - 1) * 3 + jmt kd sy c (k % 3)) 0 w / 3) && (decide (jkr (fun k c => jXf L (k / 3 * 8 + c - 1) * 3 + jmt kd sy c (k % 3)) 0 w % 3 = 1) != b)) = _
  rw [h1, show (jgo (jXf L) 0 w * 3 + jgo (jmx kd sy) 0 w) / 3 = jgo (jXf L) 0 w by omega, show (jgo (jXf L) 0 w * 3 + jgo (jmx kd sy) 0 w) % 3 = jgo (jmx kd sy) 0 w by omega]
  unfold jAc jMt
  generalize jgo (jmx kd sy) 0 w = q at h2
  rcases (by omega : q = 0 ∨ q = 1 ∨ q = 2) with rfl | rfl | rfl <;> cases b <;> rfl
