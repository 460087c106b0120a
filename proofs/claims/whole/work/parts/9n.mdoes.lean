-- the model: does
def jDo (k a b : Nat) (ip val : Nat → Nat) : Nat := if k = 0 then jmap (fun c => jlet c false) a else if k = 1 then jmap (fun c => jlet c true) (ip a) else if k = 2 then jcat (val a) (val b) else japp b (val a)
theorem jmap_60 {a : Nat} {t : Bool} (hd : jdg 4 a) (ha : a < 2 ^ 24) : jmap (fun c => jlet c t) a < 2 ^ 60 := by
  have hf : ∀ c, 1 ≤ c → c ≤ 4 → 1 ≤ jlet c t ∧ jlet c t ≤ 8 := fun c h1 h2 => by unfold jlet; split <;> omega
  obtain ⟨-, h2⟩ := jmap_dg (f := fun c => jlet c t) hf (by decide) _ hd
  have h4 := jlen_le (show a < 16 ^ 6 from ha)
  have h5 := jlen_lt (w := jmap (fun c => jlet c t) a) (n := 6) (by omega)
  have : (16 : Nat) ^ 6 < 2 ^ 60 := by decide
  omega
theorem jov_ne {b : Nat} (h : b < 2 ^ 60) : b ≠ jOV := fun z => by
  have : jOV < 2 ^ 60 := z ▸ h
  exact absurd this (by unfold jOV; decide)
section JMR4
variable (l : Launch) (D : va_G) (g : Nat × Nat) {X : ja_H}
set_option maxHeartbeats 8000000 in
set_option maxRecDepth 100000 in
theorem c_M_does {i k v a b : Nat} {sc wh on tw th dp bg ol el bk ipf : Nat → Int32} {vl : Nat → Int64} {ip val : Nat → Nat} (hc : X[145]? = some (jMo sc)) (hp : jPa X wh on tw th dp bg ol el bk) (hip : X[167]? = some (.inl (0, 3, .inl ipf))) (hvl : X[168]? = some (.inl (1, 5, .inr (.inl vl)))) (hi : i < 24) (r0 : wh i = nI k) (r1 : on i = nI v) (r2 : tw i = nI a) (r3 : th i = nI b) (hk : k < 4) (hln : jLn k v a b) (hips : ∀ j, j < 3 → ipf j = nI (ip j) ∧ jdg 4 (ip j) ∧ ip j < 2 ^ 24) (hv : ∀ j, j < 5 → vl j = lN (val j) ∧ jwv (val j)) :
    AMet l D g 3 0 0 m_M_does [.ref 145, .int (nI i)] X (fun r X' => (jDo k a b ip val = jOV → r = some (.int (nI 0)) ∧ X' = X) ∧ (jDo k a b ip val ≠ jOV → r = some (.int (nI 1)) ∧ X' = X.set 168 (.inl (1, 5, .inr (.inl (vp_updL vl v (lN (jDo k a b ip val)))))))) := by
  obtain ⟨-, hv5, hS, hG, hJ, hA, -, -⟩ := hln
  refine ja_metK (by decide) rfl (Nat.le_of_ble_eq_true rfl) fun K hB hF => ?_
  have fin : ∀ (u w : Value) (x : Nat), x = jDo k a b ip val → x ≠ jOV → K 182 [.ref 145, .int (nI i), .int (nI v), u, w] [] (X.set 168 (.inl (1, 5, .inr (.inl (vp_updL vl v (lN x)))))) 0 0 := by
    intro u w x hx hne
    subst hx
    refine kw_iconst hB M_does_182 (v := nI 1) (by decide) ?_
    refine kw_zret hF rfl (by decide) M_does_183 ⟨fun z => absurd z hne, fun _ => ⟨rfl, rfl⟩⟩ (by simp)
  refine kw_aload_n hB M_does_0 rfl ?_
  refine kw_getf hB M_does_1 f_M_13 hc rfl ?_
  refine kw_iload_n hB M_does_4 rfl ?_
  refine kn_iald hB M_does_5 hp.2.1 rfl hi (by decide) ?_
  rw [r1]
  refine kw_istore_n hB M_does_6 rfl (by decide) rfl ?_
  refine kw_aload_n hB M_does_7 rfl ?_
  refine kw_getf hB M_does_8 f_M_7 hc rfl ?_
  refine kw_iload_n hB M_does_11 rfl ?_
  refine kn_iald hB M_does_12 hp.1 rfl hi (by decide) ?_
  rw [r0]
  refine kn_if_ne hB M_does_13 (by omega) (fun z => ?_) (fun z => ?_)
  rotate_left
  · obtain ⟨d1, d2⟩ := hS z
    refine kw_aload_n hB M_does_16 rfl ?_
    refine kw_getf hB M_does_17 f_M_77 hc rfl ?_
    refine kw_iload_n hB M_does_20 rfl ?_
    refine kw_aload_n hB M_does_21 rfl ?_
    refine kw_getf hB M_does_22 f_M_16 hc rfl ?_
    refine kw_iload_n hB M_does_25 rfl ?_
    refine kn_iald hB M_does_26 hp.2.2.1 rfl hi (by decide) ?_
    rw [r2]
    refine kw_iconst hB M_does_27 (v := nI 0) (by decide) ?_
    refine kw_callS hB M_does_28 s_M_285 st_M_spelled (As := [.int (nI a), .int (nI false.toNat)]) (c_M_spelled l D g (t := false) d1 d2) rfl (by decide) (Nat.le_of_ble_eq_true rfl) (by omega) (by omega) (fun r X1 hq hl => ?_)
    obtain ⟨rfl, hxeq⟩ := hq
    obtain rfl := hxeq.symm
    refine kn_last hB M_does_31 hvl rfl hv5 (by decide) ?_
    refine kw_goto hB M_does_32 ?_
    exact fin _ _ _ (by unfold jDo; rw [if_pos z]) (jov_ne (jmap_60 d1 d2))
  refine kw_aload_n hB M_does_35 rfl ?_
  refine kw_getf hB M_does_36 f_M_7 hc rfl ?_
  refine kw_iload_n hB M_does_39 rfl ?_
  refine kn_iald hB M_does_40 hp.1 rfl hi (by decide) ?_
  rw [r0]
  refine kw_iconst hB M_does_41 (v := nI 1) (by decide) ?_
  refine kn_icmp_ne hB M_does_42 (by omega) (by decide) (fun z1 => ?_) (fun z1 => ?_)
  rotate_left
  · have a3 := hG z1
    obtain ⟨e1, d1, d2⟩ := hips a a3
    refine kw_aload_n hB M_does_45 rfl ?_
    refine kw_getf hB M_does_46 f_M_77 hc rfl ?_
    refine kw_iload_n hB M_does_49 rfl ?_
    refine kw_aload_n hB M_does_50 rfl ?_
    refine kw_getf hB M_does_51 f_M_74 hc rfl ?_
    refine kw_aload_n hB M_does_54 rfl ?_
    refine kw_getf hB M_does_55 f_M_16 hc rfl ?_
    refine kw_iload_n hB M_does_58 rfl ?_
    refine kn_iald hB M_does_59 hp.2.2.1 rfl hi (by decide) ?_
    rw [r2]
    refine kn_iald hB M_does_60 hip rfl a3 (by decide) ?_
    rw [e1]
    refine kw_iconst hB M_does_61 (v := nI 1) (by decide) ?_
    refine kw_callS hB M_does_62 s_M_285 st_M_spelled (As := [.int (nI (ip a)), .int (nI true.toNat)]) (c_M_spelled l D g (t := true) d1 d2) rfl (by decide) (Nat.le_of_ble_eq_true rfl) (by omega) (by omega) (fun r X1 hq hl => ?_)
    obtain ⟨rfl, hxeq⟩ := hq
    obtain rfl := hxeq.symm
    refine kn_last hB M_does_65 hvl rfl hv5 (by decide) ?_
    refine kw_goto hB M_does_66 ?_
    exact fin _ _ _ (by unfold jDo; rw [if_neg z, if_pos z1]) (jov_ne (jmap_60 d1 d2))
  refine kw_aload_n hB M_does_69 rfl ?_
  refine kw_getf hB M_does_70 f_M_7 hc rfl ?_
  refine kw_iload_n hB M_does_73 rfl ?_
  refine kn_iald hB M_does_74 hp.1 rfl hi (by decide) ?_
  rw [r0]
  refine kw_iconst hB M_does_75 (v := nI 2) (by decide) ?_
  refine kn_icmp_ne hB M_does_76 (by omega) (by decide) (fun z2 => ?_) (fun z2 => ?_)
  rotate_left
  · obtain ⟨a5, b5⟩ := hJ z2
    obtain ⟨ea, wa⟩ := hv a a5
    obtain ⟨eb, wb⟩ := hv b b5
    have a60 : val a < 2 ^ 60 := wa.2
    have b60 : val b < 2 ^ 60 := wb.2
    have la := jlen_le (show val a < 16 ^ 15 from a60)
    have lb := jlen_le (show val b < 16 ^ 15 from b60)
    have eD : jDo k a b ip val = jcat (val a) (val b) := by unfold jDo; rw [if_neg z, if_neg z1, if_pos z2]
    refine kw_aload_n hB M_does_79 rfl ?_
    refine kw_getf hB M_does_80 f_M_77 hc rfl ?_
    refine kw_aload_n hB M_does_83 rfl ?_
    refine kw_getf hB M_does_84 f_M_19 hc rfl ?_
    refine kw_iload_n hB M_does_87 rfl ?_
    refine kn_iald hB M_does_88 hp.2.2.2.1 rfl hi (by decide) ?_
    rw [r3]
    refine kn_lald hB M_does_89 hvl rfl b5 (by decide) ?_
    rw [eb]
    refine kw_lstore_n hB M_does_90 rfl (by decide) rfl ?_
    refine kw_aload_n hB M_does_91 rfl ?_
    refine kw_getf hB M_does_92 f_M_77 hc rfl ?_
    refine kw_aload_n hB M_does_95 rfl ?_
    refine kw_getf hB M_does_96 f_M_16 hc rfl ?_
    refine kw_iload_n hB M_does_99 rfl ?_
    refine kn_iald hB M_does_100 hp.2.2.1 rfl hi (by decide) ?_
    rw [r2]
    refine kn_lald hB M_does_101 hvl rfl a5 (by decide) ?_
    rw [ea]
    refine kw_callS hB M_does_102 s_M_267 st_M_lengthOf (As := [.long (lN (val a))]) (c_M_lengthOf l D g (by omega)) rfl (by decide) (Nat.le_of_ble_eq_true rfl) (by omega) (by omega) (fun r X1 hq hl => ?_)
    obtain ⟨rfl, hxeq⟩ := hq
    obtain rfl := hxeq.symm
    refine kw_lload_n hB M_does_105 rfl ?_
    refine kw_callS hB M_does_106 s_M_267 st_M_lengthOf (As := [.long (lN (val b))]) (c_M_lengthOf l D g (by omega)) rfl (by decide) (Nat.le_of_ble_eq_true rfl) (by omega) (by omega) (fun r X1 hq hl => ?_)
    obtain ⟨rfl, hxeq⟩ := hq
    obtain rfl := hxeq.symm
    refine kn_iadd hB M_does_109 ?_
    refine kw_bipush hB M_does_110 (v := nI 15) (by decide) ?_
    refine kn_icmp_le hB M_does_112 (by omega) (by decide) (fun z3 => ?_) (fun z3 => ?_)
    · have hj := jcat_ok (val a) (val b) b60 a60
      have hne : jcat (val a) (val b) ≠ jOV := by
        have h1 : val a < 16 ^ jlen (val a) := jlen_lt (Nat.le_refl _)
        have h2 : val b < 16 ^ jlen (val b) := jlen_lt (Nat.le_refl _)
        refine jov_ne ?_
        unfold jcat
        rw [if_neg (by omega), jp16]
        have h3 : val a * 16 ^ jlen (val b) < 16 ^ (jlen (val a) + jlen (val b)) := by
          rw [Nat.pow_add]
          exact Nat.mul_lt_mul_of_pos_right h1 (Nat.pow_pos (by decide))
        have h4 : (16 : Nat) ^ (jlen (val a) + jlen (val b)) ≤ 2 ^ 60 := by
          have := Nat.pow_le_pow_right (n := 16) (by decide) z3
          exact Nat.le_trans this (by decide)
        exact Nat.or_lt_two_pow (by omega) b60
      have m60 : val a * 2 ^ (4 * jlen (val b)) < 2 ^ 64 := by
        have h1 : val a < 16 ^ jlen (val a) := jlen_lt (Nat.le_refl _)
        rw [jp16]
        have h3 : val a * 16 ^ jlen (val b) < 16 ^ (jlen (val a) + jlen (val b)) := by
          rw [Nat.pow_add]
          exact Nat.mul_lt_mul_of_pos_right h1 (Nat.pow_pos (by decide))
        have h4 : (16 : Nat) ^ (jlen (val a) + jlen (val b)) ≤ 2 ^ 60 := by
          have := Nat.pow_le_pow_right (n := 16) (by decide) z3
          exact Nat.le_trans this (by decide)
        omega
      refine kw_aload_n hB M_does_117 rfl ?_
      refine kw_getf hB M_does_118 f_M_77 hc rfl ?_
      refine kw_iload_n hB M_does_121 rfl ?_
      refine kw_aload_n hB M_does_122 rfl ?_
      refine kw_getf hB M_does_123 f_M_77 hc rfl ?_
      refine kw_aload_n hB M_does_126 rfl ?_
      refine kw_getf hB M_does_127 f_M_16 hc rfl ?_
      refine kw_iload_n hB M_does_130 rfl ?_
      refine kn_iald hB M_does_131 hp.2.2.1 rfl hi (by decide) ?_
      rw [r2]
      refine kn_lald hB M_does_132 hvl rfl a5 (by decide) ?_
      rw [ea]
      refine kw_iconst hB M_does_133 (v := nI 4) (by decide) ?_
      refine kw_lload_n hB M_does_134 rfl ?_
      refine kw_callS hB M_does_135 s_M_267 st_M_lengthOf (As := [.long (lN (val b))]) (c_M_lengthOf l D g (by omega)) rfl (by decide) (Nat.le_of_ble_eq_true rfl) (by omega) (by omega) (fun r X1 hq hl => ?_)
      obtain ⟨rfl, hxeq⟩ := hq
      obtain rfl := hxeq.symm
      refine kn_imul hB M_does_138 ?_
      refine kl_lshl hB M_does_139 (by omega) ?_
      refine kw_lload_n hB M_does_140 rfl ?_
      refine kl_lor hB M_does_141 m60 (by omega) ?_
      refine kn_last hB M_does_142 hvl rfl hv5 (by decide) ?_
      refine kw_goto hB M_does_143 ?_
      refine fin _ _ _ ?_ ?_
      · rw [eD]; unfold jcat; rw [if_neg (by omega)]
      · have : jcat (val a) (val b) = val a * 2 ^ (4 * jlen (val b)) ||| val b := by unfold jcat; rw [if_neg (by omega)]
        rw [← this]; exact hne
    · refine kw_iconst hB M_does_115 (v := nI 0) (by decide) ?_
      have : jcat (val a) (val b) = jOV := by unfold jcat; rw [if_pos (by omega)]
      refine kw_zret hF rfl (by decide) M_does_116 ⟨fun _ => ⟨rfl, rfl⟩, fun z => absurd (eD.trans this) z⟩ (by simp)
  · obtain ⟨a5, b3⟩ := hA (by omega)
    obtain ⟨ea, wa⟩ := hv a a5
    have eD : jDo k a b ip val = japp b (val a) := by unfold jDo; rw [if_neg z, if_neg z1, if_neg z2]
    refine kw_aload_n hB M_does_146 rfl ?_
    refine kw_getf hB M_does_147 f_M_19 hc rfl ?_
    refine kw_iload_n hB M_does_150 rfl ?_
    refine kn_iald hB M_does_151 hp.2.2.2.1 rfl hi (by decide) ?_
    rw [r3]
    refine kw_aload_n hB M_does_152 rfl ?_
    refine kw_getf hB M_does_153 f_M_77 hc rfl ?_
    refine kw_aload_n hB M_does_156 rfl ?_
    refine kw_getf hB M_does_157 f_M_16 hc rfl ?_
    refine kw_iload_n hB M_does_160 rfl ?_
    refine kn_iald hB M_does_161 hp.2.2.1 rfl hi (by decide) ?_
    rw [r2]
    refine kn_lald hB M_does_162 hvl rfl a5 (by decide) ?_
    rw [ea]
    refine kw_callS hB M_does_163 s_M_289 st_M_applied (As := [.int (nI b), .long (lN (val a))]) (c_M_applied l D g b3 wa) rfl (by decide) (Nat.le_of_ble_eq_true rfl) (by omega) (by omega) (fun r X1 hq hl => ?_)
    obtain ⟨rfl, hxeq⟩ := hq
    obtain rfl := hxeq.symm
    refine kw_lstore_n hB M_does_166 rfl (by decide) rfl ?_
    refine kw_lload_n hB M_does_167 rfl ?_
    by_cases ov : japp b (val a) = jOV
    · have : jop (japp b (val a)) = none := by unfold jop; rw [if_pos ov]
      rw [this]
      refine kw_lconst hB M_does_168 (v := 0) (by decide) ?_
      refine kw_lcmp hB M_does_169 (kw_if_ge hB M_does_170 (fun y => absurd ((lg_cmp_ge _ _).mp y) (by decide)) (fun _ => ?_))
      refine kw_iconst hB M_does_173 (v := nI 0) (by decide) ?_
      refine kw_zret hF rfl (by decide) M_does_174 ⟨fun _ => ⟨rfl, rfl⟩, fun y => absurd (eD.trans ov) y⟩ (by simp)
    · have h60 := (japp_ok b (val a)).resolve_left ov
      have : jop (japp b (val a)) = some (japp b (val a)) := by unfold jop; rw [if_neg ov]
      rw [this]
      refine kw_lconst hB M_does_168 (v := lN 0) (by decide) ?_
      refine kl_cmp_ge hB M_does_169 M_does_170 (a := japp b (val a)) (by omega) (by decide) (fun _ => ?_) (fun y => absurd y (by omega))
      refine kw_aload_n hB M_does_175 rfl ?_
      refine kw_getf hB M_does_176 f_M_77 hc rfl ?_
      refine kw_iload_n hB M_does_179 rfl ?_
      refine kw_lload_n hB M_does_180 rfl ?_
      refine kn_last hB M_does_181 hvl rfl hv5 (by decide) ?_
      exact fin _ _ _ eD.symm ov
end JMR4
