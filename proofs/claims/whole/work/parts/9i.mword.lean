-- the model: noWord, accepts, attack
section JMW6
variable (l : Launch) (D : va_G) (g : Nat × Nat) {X : ja_H} {n s : Nat} {K V A B M L : Nat → Nat} {σ : Nat → List (Nat × Nat)} {md : Bool} {ip wd pl : Nat → Nat} {hn : Nat} {ed : Int32}
set_option maxHeartbeats 4000000 in
set_option maxRecDepth 100000 in
theorem c_M_noWord {w : Nat} (hw : w < 2 ^ 64) : AMet l D g 0 0 0 m_M_noWord [.long (lN w)] X (fun r X' => r = some (.int (nI (!jokw 15 8 w).toNat)) ∧ X' = X) := by
  refine ja_metK (by decide) rfl (Nat.le_of_ble_eq_true rfl) fun K hB hF => ?_
  have yes : ∀ (u t : Value), jokw 15 8 w = false → K 71 [.long (lN w), .retAddr 0, u, .retAddr 0, t] [] X 0 0 := by
    intro u t h
    refine kw_iconst hB M_noWord_71 (v := nI 1) (by decide) ?_
    refine kw_goto hB M_noWord_72 ?_
    refine kw_zret hF rfl (by first | rfl | decide) M_noWord_76 ?_ (by first | (simp [jLs_len]; done) | (simp [*]; done))
    exact ⟨by rw [h]; rfl, rfl⟩
  by_cases h63 : 2 ^ 63 ≤ w
  · have hno : jokw 15 8 w = false := by
      cases h : jokw 15 8 w with
      | false => rfl
      | true => have := ((jokw_iff 8 15 w).mp h).2; omega
    have hneg : lN w < 0 := by
      rw [Int64.lt_iff_toInt_lt]
      have h2 := BitVec.toInt_eq_toNat_cond (lN w).toBitVec
      rw [wb_tn hw, if_neg (by omega)] at h2
      have h3 : (lN w).toInt = (w : Int) - 2 ^ 64 := h2
      have h0 : (0 : Int64).toInt = 0 := by decide
      rw [h3, h0]
      omega
    refine kw_lload_n hB M_noWord_0 rfl ?_
    refine kw_lstore_n hB M_noWord_1 rfl (by decide) rfl ?_
    refine kw_iconst hB M_noWord_2 (v := nI 0) (by decide) ?_
    refine kw_istore hB M_noWord_3 (by decide) rfl ?_
    refine kw_lload_n hB M_noWord_5 rfl ?_
    refine kw_lconst hB M_noWord_6 (v := 0) (by decide) ?_
    refine kw_lcmp hB M_noWord_7 (kw_if_le hB M_noWord_8 (fun _ => ?_) (fun z => absurd ((lg_cmp_le _ _).mpr (Int64.le_of_lt hneg)) z))
    refine kw_lload_n hB M_noWord_52 rfl ?_
    refine kw_lconst hB M_noWord_53 (v := 0) (by decide) ?_
    refine kw_lcmp hB M_noWord_54 (kw_if_lt hB M_noWord_55 (fun _ => yes _ _ hno) (fun z => absurd ((lg_cmp_lt _ _).mpr hneg) z))
  · have hw63 : w < 2 ^ 63 := by omega
    have out : ∀ r m, r < 2 ^ 63 → m ≤ 16 → (jokw 15 8 w = true ↔ r = 0 ∧ m ≤ 15) → K 52 [.long (lN w), .retAddr 0, .long (lN r), .retAddr 0, .int (nI m)] [] X 0 0 := by
      intro r m hr hm hi
      refine kw_lload_n hB M_noWord_52 rfl ?_
      refine kw_lconst hB M_noWord_53 (v := lN 0) (by decide) ?_
      refine kl_cmp_lt hB M_noWord_54 M_noWord_55 hw63 (by decide) (fun z => absurd z (by omega)) (fun _ => ?_)
      refine kw_lload_n hB M_noWord_58 rfl ?_
      refine kw_lconst hB M_noWord_59 (v := lN 0) (by decide) ?_
      refine kl_cmp_gt hB M_noWord_60 M_noWord_61 hr (by decide) (fun z => yes _ _ ?_) (fun z => ?_)
      · cases h : jokw 15 8 w with
        | false => rfl
        | true => have := (hi.mp h).1; omega
      · refine kw_iload hB M_noWord_64 rfl ?_
        refine kw_bipush hB M_noWord_66 (v := nI 15) (by decide) ?_
        refine kn_icmp_le hB M_noWord_68 (by omega) (by decide) (fun z2 => ?_) (fun z2 => yes _ _ ?_)
        · refine kw_iconst hB M_noWord_75 (v := nI 0) (by decide) ?_
          refine kw_zret hF rfl (by first | rfl | decide) M_noWord_76 ?_ (by first | (simp [jLs_len]; done) | (simp [*]; done))
          exact ⟨by rw [hi.mpr ⟨by omega, z2⟩]; rfl, rfl⟩
        · cases h : jokw 15 8 w with
          | false => rfl
          | true => have := (hi.mp h).2; omega
    have loop : ∀ p r m, m + p = 16 → r < 2 ^ 63 → (jokw 15 8 w = if p = 0 then false else jokw (p - 1) 8 r) → K 5 [.long (lN w), .retAddr 0, .long (lN r), .retAddr 0, .int (nI m)] [] X 0 0 := by
      intro p
      induction p with
      | zero =>
        intro r m hm hr hi
        rw [if_pos rfl] at hi
        have no : K 52 [.long (lN w), .retAddr 0, .long (lN r), .retAddr 0, .int (nI m)] [] X 0 0 := out r m hr (by omega) ⟨fun z => (by rw [hi] at z; cases z), fun z => by omega⟩
        refine kw_lload_n hB M_noWord_5 rfl ?_
        refine kw_lconst hB M_noWord_6 (v := lN 0) (by decide) ?_
        refine kl_cmp_le hB M_noWord_7 M_noWord_8 hr (by decide) (fun _ => no) (fun _ => ?_)
        refine kw_lload_n hB M_noWord_11 rfl ?_
        refine kw_ldc2 hB M_noWord_12 (v := 16) (jm 1192 (by decide +kernel) rfl) ?_
        refine kl_lrem hB M_noWord_15 (b := 16) hr (by decide) (by decide) ?_
        refine kw_lconst hB M_noWord_16 (v := lN 1) (by decide) ?_
        refine kl_cmp_lt hB M_noWord_17 M_noWord_18 (by omega) (by decide) (fun _ => no) (fun _ => ?_)
        refine kw_lload_n hB M_noWord_21 rfl ?_
        refine kw_ldc2 hB M_noWord_22 (v := 16) (jm 1192 (by decide +kernel) rfl) ?_
        refine kl_lrem hB M_noWord_25 (b := 16) hr (by decide) (by decide) ?_
        refine kw_ldc2 hB M_noWord_26 (v := 8) (jm 1193 (by decide +kernel) rfl) ?_
        refine kl_cmp_gt hB M_noWord_29 M_noWord_30 (b := 8) (by omega) (by decide) (fun _ => no) (fun _ => ?_)
        refine kw_iload hB M_noWord_33 rfl ?_
        refine kw_bipush hB M_noWord_35 (v := nI 16) (by decide) ?_
        refine kn_icmp_ge hB M_noWord_37 (by omega) (by decide) (fun _ => no) (fun z => absurd z (by omega))
      | succ p ih =>
        intro r m hm hr hi
        rw [if_neg (by omega), show p + 1 - 1 = p from rfl] at hi
        refine kw_lload_n hB M_noWord_5 rfl ?_
        refine kw_lconst hB M_noWord_6 (v := lN 0) (by decide) ?_
        refine kl_cmp_le hB M_noWord_7 M_noWord_8 hr (by decide) (fun z => ?_) (fun z => ?_)
        · have h0 : r = 0 := by omega
          refine out r m hr (by omega) ⟨fun _ => ⟨h0, by omega⟩, fun _ => ?_⟩
          rw [hi, h0]
          cases p <;> rfl
        · have h0 : r ≠ 0 := by omega
          have bad : ¬ (1 ≤ r % 16 ∧ r % 16 ≤ 8) → K 52 [.long (lN w), .retAddr 0, .long (lN r), .retAddr 0, .int (nI m)] [] X 0 0 := fun hb => out r m hr (by omega) ⟨fun w => (by
            rw [hi] at w
            cases p with
            | zero => exact absurd (by simpa [jokw] using w) h0
            | succ p => simp [jokw, h0, hb] at w), fun w => absurd w.1 h0⟩
          refine kw_lload_n hB M_noWord_11 rfl ?_
          refine kw_ldc2 hB M_noWord_12 (v := 16) (jm 1192 (by decide +kernel) rfl) ?_
          refine kl_lrem hB M_noWord_15 (b := 16) hr (by decide) (by decide) ?_
          refine kw_lconst hB M_noWord_16 (v := lN 1) (by decide) ?_
          refine kl_cmp_lt hB M_noWord_17 M_noWord_18 (by omega) (by decide) (fun w => bad (by omega)) (fun w1 => ?_)
          refine kw_lload_n hB M_noWord_21 rfl ?_
          refine kw_ldc2 hB M_noWord_22 (v := 16) (jm 1192 (by decide +kernel) rfl) ?_
          refine kl_lrem hB M_noWord_25 (b := 16) hr (by decide) (by decide) ?_
          refine kw_ldc2 hB M_noWord_26 (v := 8) (jm 1193 (by decide +kernel) rfl) ?_
          refine kl_cmp_gt hB M_noWord_29 M_noWord_30 (b := 8) (by omega) (by decide) (fun w => bad (by omega)) (fun w2 => ?_)
          refine kw_iload hB M_noWord_33 rfl ?_
          refine kw_bipush hB M_noWord_35 (v := nI 16) (by decide) ?_
          refine kn_icmp_ge hB M_noWord_37 (by omega) (by decide) (fun w => absurd w (by omega)) (fun _ => ?_)
          refine kw_lload_n hB M_noWord_40 rfl ?_
          refine kw_ldc2 hB M_noWord_41 (v := 16) (jm 1192 (by decide +kernel) rfl) ?_
          refine kl_ldiv hB M_noWord_44 (b := 16) hr (by decide) (by decide) ?_
          refine kw_lstore_n hB M_noWord_45 rfl (by decide) rfl ?_
          refine kn_iinc hB M_noWord_46 rfl (by decide) rfl ?_
          refine kw_goto hB M_noWord_49 ?_
          refine ih (r / 16) (m + 1) (by omega) (by omega) ?_
          rw [hi]
          cases p with
          | zero => simp [jokw, h0]
          | succ p => simp [jokw, h0, w1, w2]
    refine kw_lload_n hB M_noWord_0 rfl ?_
    refine kw_lstore_n hB M_noWord_1 rfl (by decide) rfl ?_
    refine kw_iconst hB M_noWord_2 (v := nI 0) (by decide) ?_
    refine kw_istore hB M_noWord_3 (by decide) rfl ?_
    exact loop 16 w 0 (by omega) hw63 (by rw [if_neg (by decide)])
set_option maxHeartbeats 4000000 in
set_option maxRecDepth 100000 in
theorem c_M_attack {w : Nat} (hc : ∃ c, X[145]? = some c) (hw : w < 2 ^ 64) : AMet l D g 2 0 0 m_M_attack [.ref 145, .long (lN w)] X (fun r X' => r = some (.int (if jokw 15 8 w then nI (decide (jatt w (jlen w) ≠ 0)).toNat else -1)) ∧ X' = X) := by
  refine ja_metK (by decide) rfl (Nat.le_of_ble_eq_true rfl) fun K9 hB hF => ?_
  refine kw_lload_n hB M_attack_0 rfl ?_
  refine kw_callS hB M_attack_1 s_M_273 st_M_noWord (As := [.long (lN w)]) (c_M_noWord l D g hw) rfl (by decide) (Nat.le_of_ble_eq_true rfl) (by omega) (by omega) (fun r X1 hq hl => ?_)
  obtain ⟨rfl, hxeq⟩ := hq
  obtain rfl := hxeq.symm
  refine kn_if_eq hB M_attack_4 (by cases jokw 15 8 w <;> decide) (fun hz => ?_) (fun hz => ?_)
  rotate_left
  · refine kw_iconst hB M_attack_7 (v := -1) (by decide) ?_
    refine kw_iret hF rfl M_attack_8 ?_ (by first | (simp [jLs_len]; done) | (simp [*]; done))
    exact ⟨by rw [jb_p hz]; rfl, rfl⟩
  have hz := jb_n hz
  obtain ⟨d1, d2⟩ := (jokw_iff 8 15 w).mp hz
  have d2 : w < 2 ^ 60 := d2
  have h15 : jlen w ≤ 15 := jlen_le (show w < 16 ^ 15 from d2)
  have lt4 : ∀ k, jatt w k < 4 := fun k => by
    cases k with
    | zero => show (0 : Nat) < 4; decide
    | succ k => exact jread_lt _ _
  have loop : ∀ p i, i + p = jlen w → K9 14 [.ref 145, .long (lN w), .retAddr 0, .int (nI (jatt w i)), .int (nI i)] [] X 0 0 := by
    intro p
    induction p with
    | zero =>
      intro i hi
      have hi : i = jlen w := by omega
      subst hi
      refine kw_iload hB M_attack_14 rfl ?_
      refine kw_lload_n hB M_attack_16 rfl ?_
      refine kw_callS hB M_attack_17 s_M_267 st_M_lengthOf (As := [.long (lN w)]) (c_M_lengthOf l D g (by omega)) rfl (by decide) (Nat.le_of_ble_eq_true rfl) (by omega) (by omega) (fun r X1 hq hl => ?_)
      obtain ⟨rfl, hxeq⟩ := hq
      obtain rfl := hxeq.symm
      refine kn_icmp_ge hB M_attack_20 (by omega) (by omega) (fun _ => ?_) (fun z => absurd z (by omega))
      have h4 := lt4 (jlen w)
      refine kw_iload_n hB M_attack_40 rfl ?_
      refine kw_if_le hB M_attack_41 (fun z => ?_) (fun z => ?_)
      · have h0 : jatt w (jlen w) = 0 := by have := (nI_leI (b := 0) (by omega) (by decide)).mp z; omega
        refine kw_iconst hB M_attack_48 (v := nI 0) (by decide) ?_
        refine kw_iret hF rfl M_attack_49 ?_ (by first | (simp [jLs_len]; done) | (simp [*]; done))
        exact ⟨by rw [hz, h0]; rfl, rfl⟩
      · have h0 : jatt w (jlen w) ≠ 0 := fun y => z (by rw [y]; decide)
        refine kw_iconst hB M_attack_44 (v := nI 1) (by decide) ?_
        refine kw_goto hB M_attack_45 ?_
        refine kw_iret hF rfl M_attack_49 ?_ (by first | (simp [jLs_len]; done) | (simp [*]; done))
        exact ⟨by rw [hz, decide_eq_true h0]; rfl, rfl⟩
    | succ p ih =>
      intro i hi
      have hd := jdg_dig d1 (show i < jlen w by omega)
      refine kw_iload hB M_attack_14 rfl ?_
      refine kw_lload_n hB M_attack_16 rfl ?_
      refine kw_callS hB M_attack_17 s_M_267 st_M_lengthOf (As := [.long (lN w)]) (c_M_lengthOf l D g (by omega)) rfl (by decide) (Nat.le_of_ble_eq_true rfl) (by omega) (by omega) (fun r X1 hq hl => ?_)
      obtain ⟨rfl, hxeq⟩ := hq
      obtain rfl := hxeq.symm
      refine kn_icmp_ge hB M_attack_20 (by omega) (by omega) (fun z => absurd z (by omega)) (fun _ => ?_)
      refine kw_iload_n hB M_attack_23 rfl ?_
      refine kw_lload_n hB M_attack_24 rfl ?_
      refine kw_iload hB M_attack_25 rfl ?_
      refine kw_callS hB M_attack_27 s_M_277 st_M_letter (As := [.long (lN w), .int (nI i)]) (c_M_letter l D g d2 (by omega)) rfl (by decide) (Nat.le_of_ble_eq_true rfl) (by omega) (by omega) (fun r X1 hq hl => ?_)
      obtain ⟨rfl, hxeq⟩ := hq
      obtain rfl := hxeq.symm
      refine kw_callS hB M_attack_30 s_M_257 st_M_reads (As := [.int (nI (jatt w i)), .int (nI (jdig w (jlen w) i))]) (c_M_reads l D g (lt4 i) hd.1 hd.2) rfl (by decide) (Nat.le_of_ble_eq_true rfl) (by omega) (by omega) (fun r X1 hq hl => ?_)
      obtain ⟨rfl, hxeq⟩ := hq
      obtain rfl := hxeq.symm
      refine kw_istore_n hB M_attack_33 rfl (by decide) rfl ?_
      refine kn_iinc hB M_attack_34 rfl (by decide) rfl ?_
      refine kw_goto hB M_attack_37 ?_
      exact ih (i + 1) (by omega)
  refine kw_iconst hB M_attack_9 (v := nI 0) (by decide) ?_
  refine kw_istore_n hB M_attack_10 rfl (by decide) rfl ?_
  refine kw_iconst hB M_attack_11 (v := nI 0) (by decide) ?_
  refine kw_istore hB M_attack_12 (by decide) rfl ?_
  exact loop (jlen w) 0 (by omega)
set_option maxHeartbeats 4000000 in
set_option maxRecDepth 100000 in
theorem c_M_accepts {x : Int32} {w : Nat} (h : jMdl X n s K V A B M L σ md ip wd pl hn ed) (hP : jPP n s K V A B M L σ) (hw : w < 2 ^ 64) : AMet l D g 2 0 0 m_M_accepts [.ref 145, .int x, .long (lN w)] X (fun r X' => r = some (.int (if md && jin s x && jokw 15 8 w then nI (jAcw (jSn (jFin n K V A B M L) (jv x)) w).toNat else -1)) ∧ X' = X) := by
  have hs6 := hP.2.1
  have h0 := h
  obtain ⟨sc, f, mf, rn, fa, he, -, -, -, -, -, -, hmd⟩ := h
  refine ja_metK (by decide) rfl (Nat.le_of_ble_eq_true rfl) fun K9 hB hF => ?_
  have no : (md && jin s x && jokw 15 8 w) = false → K9 15 [.ref 145, .int x, .long (lN w), .retAddr 0, .retAddr 0, .retAddr 0] [] X 0 0 := by
    intro hno
    refine kw_iconst hB M_accepts_15 (v := -1) (by decide) ?_
    refine kw_iret hF rfl M_accepts_16 ?_ (by first | (simp [jLs_len]; done) | (simp [*]; done))
    exact ⟨by rw [hno]; rfl, rfl⟩
  refine kw_aload_n hB M_accepts_0 rfl ?_
  refine kw_iload_n hB M_accepts_1 rfl ?_
  refine kw_callV hB M_accepts_2 s_M_260 im_M_noSink se_M_noSink he.c rfl rfl (As := [.int x]) (c_M_noSink l D g h0 hP) rfl (by decide) (Nat.le_of_ble_eq_true rfl) (by omega) (by omega) (fun r X1 hq hl => ?_)
  obtain ⟨rfl, hxeq⟩ := hq
  obtain rfl := hxeq.symm
  refine kn_if_ne hB M_accepts_5 (by cases (md && jin s x) <;> decide) (fun hz => no (by rw [jb_p hz]; rfl)) (fun hz => ?_)
  have hz := jb_n hz
  obtain ⟨hm, hx⟩ := Bool.and_eq_true_iff.mp hz
  obtain ⟨e1, e2⟩ := jin_v hx (by omega)
  have hL := (hmd hm).1 (jv x) e2
  refine kw_lload_n hB M_accepts_8 rfl ?_
  refine kw_callS hB M_accepts_9 s_M_273 st_M_noWord (As := [.long (lN w)]) (c_M_noWord l D g hw) rfl (by decide) (Nat.le_of_ble_eq_true rfl) (by omega) (by omega) (fun r X1 hq hl => ?_)
  obtain ⟨rfl, hxeq⟩ := hq
  obtain rfl := hxeq.symm
  refine kn_if_eq hB M_accepts_12 (by cases jokw 15 8 w <;> decide) (fun hz2 => ?_) (fun hz2 => no (by rw [jb_p hz2, Bool.and_false]))
  have hz2 := jb_n hz2
  rw [hz, hz2] at hF
  generalize jSn (jFin n K V A B M L) (jv x) = J at hL hF
  obtain ⟨st, gd, tb, ht, hte⟩ := he.tr
  have hat : jAt st gd tb (35 + jv x) J := hte _ _ (by omega) hL
  have ok := hat.1
  have J1 := ok.2.1
  have J24 := ok.2.2.1
  obtain ⟨d1, d2⟩ := (jokw_iff 8 15 w).mp hz2
  have d2 : w < 2 ^ 60 := d2
  have h15 : jlen w ≤ 15 := jlen_le (show w < 16 ^ 15 from d2)
  have lt : ∀ k, k ≤ jlen w → jrun (jXf J) w k < J.1 := fun k => by
    induction k with
    | zero => intro _; exact J1
    | succ k ih =>
      intro hk
      have := ih (by omega)
      have hd := jdg_dig d1 (show k < jlen w by omega)
      exact ok.2.2.2.2.1 _ (by omega)
  have loop : ∀ p i, i + p = jlen w → K9 23 [.ref 145, .int x, .long (lN w), .retAddr 0, .int (nI (jrun (jXf J) w i)), .int (nI i)] [] X 0 0 := by
    intro p
    induction p with
    | zero =>
      intro i hi
      have hi : i = jlen w := by omega
      subst hi
      have hlt := lt (jlen w) (Nat.le_refl _)
      refine kw_iload hB M_accepts_23 rfl ?_
      refine kw_lload_n hB M_accepts_25 rfl ?_
      refine kw_callS hB M_accepts_26 s_M_267 st_M_lengthOf (As := [.long (lN w)]) (c_M_lengthOf l D g (by omega)) rfl (by decide) (Nat.le_of_ble_eq_true rfl) (by omega) (by omega) (fun r X1 hq hl => ?_)
      obtain ⟨rfl, hxeq⟩ := hq
      obtain rfl := hxeq.symm
      refine kn_icmp_ge hB M_accepts_29 (by omega) (by omega) (fun _ => ?_) (fun z => absurd z (by omega))
      refine kw_aload_n hB M_accepts_56 rfl ?_
      refine kw_bipush hB M_accepts_57 (v := nI 35) (by decide) ?_
      refine kw_iload_n hB M_accepts_59 (v := nI (jv x)) (by rw [← e1]; rfl) ?_
      refine kn_iadd hB M_accepts_60 ?_
      refine kw_iload hB M_accepts_61 rfl ?_
      refine kw_callV hB M_accepts_63 s_M_139 im_M_takes se_M_takes ht.1 rfl rfl (As := [.int (nI (35 + jv x)), .int (nI (jrun (jXf J) w (jlen w)))]) (c_M_takes l D g ht hat (by omega) (by omega)) rfl (by decide) (Nat.le_of_ble_eq_true rfl) (by omega) (by omega) (fun r X1 hq hl => ?_)
      obtain ⟨rfl, hxeq⟩ := hq
      obtain rfl := hxeq.symm
      refine kn_if_eq hB M_accepts_66 (by cases J.2.1.testBit (jrun (jXf J) w (jlen w)) <;> decide) (fun hb => ?_) (fun hb => ?_)
      · refine kw_iconst hB M_accepts_73 (v := nI 0) (by decide) ?_
        refine kw_iret hF rfl M_accepts_74 ⟨?_, rfl⟩ (by simp)
        have : jAcw J w = false := jb_f hb
        rw [this]; rfl
      · refine kw_iconst hB M_accepts_69 (v := nI 1) (by decide) ?_
        refine kw_goto hB M_accepts_70 ?_
        refine kw_iret hF rfl M_accepts_74 ⟨?_, rfl⟩ (by simp)
        have : jAcw J w = true := jb_t hb
        rw [this]; rfl
    | succ p ih =>
      intro i hi
      have hd := jdg_dig d1 (show i < jlen w by omega)
      have hlt := lt i (by omega)
      refine kw_iload hB M_accepts_23 rfl ?_
      refine kw_lload_n hB M_accepts_25 rfl ?_
      refine kw_callS hB M_accepts_26 s_M_267 st_M_lengthOf (As := [.long (lN w)]) (c_M_lengthOf l D g (by omega)) rfl (by decide) (Nat.le_of_ble_eq_true rfl) (by omega) (by omega) (fun r X1 hq hl => ?_)
      obtain ⟨rfl, hxeq⟩ := hq
      obtain rfl := hxeq.symm
      refine kn_icmp_ge hB M_accepts_29 (by omega) (by omega) (fun z => absurd z (by omega)) (fun _ => ?_)
      refine kw_aload_n hB M_accepts_32 rfl ?_
      refine kw_bipush hB M_accepts_33 (v := nI 35) (by decide) ?_
      refine kw_iload_n hB M_accepts_35 (v := nI (jv x)) (by rw [← e1]; rfl) ?_
      refine kn_iadd hB M_accepts_36 ?_
      refine kw_iload hB M_accepts_37 rfl ?_
      refine kw_lload_n hB M_accepts_39 rfl ?_
      refine kw_iload hB M_accepts_40 rfl ?_
      refine kw_callS hB M_accepts_42 s_M_277 st_M_letter (As := [.long (lN w), .int (nI i)]) (c_M_letter l D g d2 (by omega)) rfl (by decide) (Nat.le_of_ble_eq_true rfl) (by omega) (by omega) (fun r X1 hq hl => ?_)
      obtain ⟨rfl, hxeq⟩ := hq
      obtain rfl := hxeq.symm
      refine kw_callV hB M_accepts_45 s_M_119 im_M_step se_M_step ht.1 rfl rfl (As := [.int (nI (35 + jv x)), .int (nI (jrun (jXf J) w i)), .int (nI (jdig w (jlen w) i))]) (c_M_step l D g ht hat (by omega) hlt hd.1 hd.2) rfl (by decide) (Nat.le_of_ble_eq_true rfl) (by omega) (by omega) (fun r X1 hq hl => ?_)
      obtain ⟨rfl, hxeq⟩ := hq
      obtain rfl := hxeq.symm
      refine kw_istore hB M_accepts_48 (by decide) rfl ?_
      refine kn_iinc hB M_accepts_50 rfl (by decide) rfl ?_
      refine kw_goto hB M_accepts_53 ?_
      exact ih (i + 1) (by omega)
  refine kw_iconst hB M_accepts_17 (v := nI 0) (by decide) ?_
  refine kw_istore hB M_accepts_18 (by decide) rfl ?_
  refine kw_iconst hB M_accepts_20 (v := nI 0) (by decide) ?_
  refine kw_istore hB M_accepts_21 (by decide) rfl ?_
  exact loop (jlen w) 0 (by omega)
end JMW6
