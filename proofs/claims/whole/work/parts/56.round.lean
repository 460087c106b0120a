-- Analysis: closeRound
section JCR
variable (l : Launch) (D : va_G) (g : Nat × Nat) {X : ja_H}
set_option maxHeartbeats 8000000 in
set_option maxRecDepth 100000 in
theorem c_A_closeRound {n en R : Nat} {md un : Int32} {rd : Nat → Int32} {K0 V A B M L : Nat → Nat} {nw hl0 : Nat → jLan} {bf bg : Nat → Option jLan} (h : jAS X md un rd nw bf bg) (hR : jRv X 2 n K0 V A B M L) (hh : en < n) (hk : K0 en = 9) (hk7 : K0 (M en) = 7) (hrd : rd (M en) = nI R) (hR31 : R + 1 < 2 ^ 31) (ho : ∀ v, v < 5 → bf (L (M en) * 5 + v) = some (hl0 v)) : AMet l D g 5 0 0 m_A_closeRound [.ref 11, .ref 2, .int (nI en)] X (fun r X' => r = some (.int (nI (if jDn nw hl0 5 then en + 1 else M en + 1))) ∧ jAS X' md un (upd rd (M en) (nI (R + 1))) (jKp (fun v => jCr1 (decide (3 ≤ R + 1)) (nw v) (hl0 v)) (V (M en)) (A (M en)) (B (M en)) (!jDn nw hl0 5)) (jPut bf (L (M en) * 5) 5 (fun v => jCr1 (decide (3 ≤ R + 1)) (nw v) (hl0 v))) bg ∧ jfr jWk X X') := by
  have hR0 := hR
  obtain ⟨kd, vr, fs, sc, mt, lv, pt, hdd, sk, op, r, hn, hr⟩ := hR
  obtain ⟨-, -, -, -, -, -, -, -, -, -, -, -, q13, -⟩ := hr en hh
  obtain ⟨m1, m2⟩ := q13 (by omega)
  obtain ⟨r1, r2, r3, r4, -, r6, -, -, -, -, -, -, -, r14⟩ := hr (M en) m2
  obtain ⟨k1, k2⟩ := r14 (by omega)
  refine ja_metK (by decide) rfl (Nat.le_of_ble_eq_true rfl) fun K hB hF => ?_
  have loop : ∀ m v (u : Value) (Y : ja_H) (cw : Nat → jLan), v + m = 5 → jfr jWk X Y → jAS Y md un (upd rd (M en) (nI (R + 1))) cw (jPut bf (L (M en) * 5) v (fun v => jCr1 (decide (3 ≤ R + 1)) (nw v) (hl0 v))) bg → (∀ v', v' < v → cw v' = jCr1 (decide (3 ≤ R + 1)) (nw v') (hl0 v')) → (∀ v', v ≤ v' → v' < 5 → cw v' = nw v') → K 33 [.ref 11, .ref 2, .int (nI en), .int (nI (M en)), .int (nI (L (M en) * 5)), .int (nI (jDn nw hl0 v).toNat), .int (nI v), u] [] Y 0 0 := by
    intro m
    induction m with
    | zero =>
      intro v u Y cw hv hf hY c1 c2
      have hle := hf.1
      have h5 : v = 5 := by omega
      subst h5
      have hY' := hY.cong (fun v' hv' => c1 v' hv')
      have tail : ∀ (X1 : ja_H), X1.length = X.length → jAS X1 md un (upd rd (M en) (nI (R + 1))) (jKp (fun v => jCr1 (decide (3 ≤ R + 1)) (nw v) (hl0 v)) (V (M en)) (A (M en)) (B (M en)) (!jDn nw hl0 5)) (jPut bf (L (M en) * 5) 5 (fun v => jCr1 (decide (3 ≤ R + 1)) (nw v) (hl0 v))) bg → jfr jWk X X1 → K 143 [.ref 11, .ref 2, .int (nI en), .int (nI (M en)), .int (nI (L (M en) * 5)), .int (nI (jDn nw hl0 5).toNat), .int (nI 5), u] [] X1 0 0 := by
        intro X1 hl1 e1 e2
        refine kw_iload hB A_closeRound_143 rfl ?_
        refine kn_if_eq hB A_closeRound_145 (by cases jDn nw hl0 5 <;> decide) (fun hz => ?_) (fun hz => ?_)
        · have hd := jb_f hz
          refine kw_iload_n hB A_closeRound_154 rfl ?_
          refine kw_iconst hB A_closeRound_155 (v := nI 1) (by decide) ?_
          refine kn_iadd hB A_closeRound_156 ?_
          refine kw_iret hF rfl A_closeRound_157 ?_ (by omega)
          exact ⟨by rw [hd]; rfl, e1, e2⟩
        · have hd := jb_t hz
          refine kw_iload_n hB A_closeRound_148 rfl ?_
          refine kw_iconst hB A_closeRound_149 (v := nI 1) (by decide) ?_
          refine kn_iadd hB A_closeRound_150 ?_
          refine kw_goto hB A_closeRound_151 ?_
          refine kw_iret hF rfl A_closeRound_157 ?_ (by omega)
          exact ⟨by rw [hd]; rfl, e1, e2⟩
      refine kw_iload hB A_closeRound_33 rfl ?_
      refine kw_iconst hB A_closeRound_35 (v := nI 5) (by decide) ?_
      refine kn_icmp_ge hB A_closeRound_36 (by omega) (by decide) (fun hc => ?_) (fun hc => absurd hc (by omega))
      refine kw_aload_n hB A_closeRound_127 rfl ?_
      refine kw_aload_n hB A_closeRound_128 rfl ?_
      refine kw_iload_n hB A_closeRound_129 rfl ?_
      refine kw_iload hB A_closeRound_130 rfl ?_
      refine kn_if_ne hB A_closeRound_132 (by cases jDn nw hl0 5 <;> decide) (fun hz => ?_) (fun hz => ?_)
      · have hd := jb_t hz
        refine kw_iconst hB A_closeRound_139 (v := nI 0) (by decide) ?_
        refine kw_callV hB A_closeRound_140 s_A_214 im_A_keep se_A_keep hY.1 rfl rfl (As := [.ref 2, .int (nI (M en)), .int (nI false.toNat)]) (d_A_keep l D g (b := false) hY' (hR0.fr hf (fun k hk => by rw [jWk_mem] at hk; omega)) m2 (Or.inr hk7)) rfl (by decide) (Nat.le_of_ble_eq_true rfl) (by omega) (by omega) (fun r X1 hq hl => ?_)
        obtain ⟨rfl, e1, e2⟩ := hq
        have hle2 := e2.1
        exact tail X1 (by omega) (by rw [hd]; exact e1) (hf.tr e2)
      · have hd := jb_f hz
        refine kw_iconst hB A_closeRound_135 (v := nI 1) (by decide) ?_
        refine kw_goto hB A_closeRound_136 ?_
        refine kw_callV hB A_closeRound_140 s_A_214 im_A_keep se_A_keep hY.1 rfl rfl (As := [.ref 2, .int (nI (M en)), .int (nI true.toNat)]) (d_A_keep l D g (b := true) hY' (hR0.fr hf (fun k hk => by rw [jWk_mem] at hk; omega)) m2 (Or.inr hk7)) rfl (by decide) (Nat.le_of_ble_eq_true rfl) (by omega) (by omega) (fun r X1 hq hl => ?_)
        obtain ⟨rfl, e1, e2⟩ := hq
        have hle2 := e2.1
        exact tail X1 (by omega) (by rw [hd]; exact e1) (hf.tr e2)
    | succ m ih =>
      intro v u Y cw hv hf hY c1 c2
      have hle := hf.1
      have hpv : jPut bf (L (M en) * 5) v (fun v => jCr1 (decide (3 ≤ R + 1)) (nw v) (hl0 v)) (L (M en) * 5 + v) = some (hl0 v) := by
        unfold jPut; rw [if_neg (by omega)]; exact ho v (by omega)
      obtain ⟨fb, b1, b2⟩ := hY.2.2.2.1
      obtain ⟨fa, a1, a2⟩ := hY.2.2.1
      have hb := (hY.2.2.2.2.2.2.1 (L (M en) * 5 + v) (by omega)).2 _ hpv
      refine kw_iload hB A_closeRound_33 rfl ?_
      refine kw_iconst hB A_closeRound_35 (v := nI 5) (by decide) ?_
      refine kn_icmp_ge hB A_closeRound_36 (by omega) (by decide) (fun hc => absurd hc (by omega)) (fun hc => ?_)
      refine kw_aload_n hB A_closeRound_39 rfl ?_
      refine kw_getf hB A_closeRound_40 f_A_36 hY.1 rfl ?_
      refine kw_iload hB A_closeRound_43 rfl ?_
      refine kw_iload hB A_closeRound_45 rfl ?_
      refine kn_iadd hB A_closeRound_47 ?_
      refine kn_aald hB A_closeRound_48 b1 rfl rfl (by omega) (by decide) (b2 _ (by omega)) ?_
      refine kw_astore hB A_closeRound_49 (by decide) rfl ?_
      refine kw_aload_n hB A_closeRound_51 rfl ?_
      refine kw_aload_n hB A_closeRound_52 rfl ?_
      refine kw_getf hB A_closeRound_53 f_A_33 hY.1 rfl ?_
      refine kw_iload hB A_closeRound_56 rfl ?_
      refine kn_aald hB A_closeRound_58 a1 rfl rfl (by omega) (by decide) (a2 _ (by omega)) ?_
      refine kw_aload hB A_closeRound_59 rfl ?_
      refine kw_callV hB A_closeRound_61 s_A_218 im_A_unite se_A_unite hY.1 rfl rfl (As := [.ref (70 + 2 * v), .ref (80 + 2 * (L (M en) * 5 + v))]) (d_A_unite l D g hY (by omega) hb (by omega)) rfl (by decide) (Nat.le_of_ble_eq_true rfl) (by omega) (by omega) (fun r X1 hq hl => ?_)
      obtain ⟨rfl, e1, e2⟩ := hq
      rw [c2 v (by omega) (by omega)] at e1
      have f1 : jfr jWk X X1 := hf.tr (e2.mono (jun_wk (by omega)))
      obtain ⟨fa, a1, a2⟩ := e1.2.2.1
      have hb := (e1.2.2.2.2.2.2.1 (L (M en) * 5 + v) (by omega)).2 _ hpv
      have hw := e1.2.2.2.2.2.1 v (by omega)
      rw [jup_self] at hw
      refine kw_aload_n hB A_closeRound_64 rfl ?_
      refine kw_getf hB A_closeRound_65 f_A_33 e1.1 rfl ?_
      refine kw_iload hB A_closeRound_68 rfl ?_
      refine kn_aald hB A_closeRound_70 a1 rfl rfl (by omega) (by decide) (a2 _ (by omega)) ?_
      refine kw_aload hB A_closeRound_71 rfl ?_
      refine kw_callV hB A_closeRound_73 s_A_221 im_L_isSame se_L_isSame hw.1.choose_spec.1.1 rfl rfl (As := [.ref (80 + 2 * (L (M en) * 5 + v))]) (w_L_isSame l D g hw hb) rfl (by decide) (Nat.le_of_ble_eq_true rfl) (by omega) (by omega) (fun r X1 hq hl => ?_)
      obtain ⟨rfl, hxeq⟩ := hq
      obtain rfl := hxeq.symm
      refine kn_if_ne hB A_closeRound_76 (by cases decide (jUni (nw v) (hl0 v) = hl0 v) <;> decide) (fun hz => ?_) (fun hz => ?_)
      · have he : jUni (nw v) (hl0 v) = hl0 v := of_decide_eq_true (jb_t hz)
        have hcr : jCr1 (decide (3 ≤ R + 1)) (nw v) (hl0 v) = hl0 v := by unfold jCr1; rw [if_pos he]
        have hdn : jDn nw hl0 v = jDn nw hl0 (v + 1) := by rw [jDn, decide_eq_true he, Bool.and_true]
        refine kn_iinc hB A_closeRound_121 rfl (by decide) rfl ?_
        refine kw_goto hB A_closeRound_124 ?_
        rw [hdn]
        refine ih (v + 1) _ _ _ (by omega) f1 (by rw [← jPut_s, jup_id (by rw [hpv, hcr])]; exact e1) (fun v' hv' => ?_) (fun v' h1 h2 => ?_)
        · by_cases hvv : v' = v
          · subst hvv; rw [jup_self, hcr, he]
          · rw [jup_ne hvv]; exact c1 v' (by omega)
        · rw [jup_ne (by omega)]; exact c2 v' (by omega) h2
      · have he : ¬ jUni (nw v) (hl0 v) = hl0 v := of_decide_eq_false (jb_f hz)
        have hdn : false = jDn nw hl0 (v + 1) := by rw [jDn, decide_eq_false he, Bool.and_false]
        have fin : ∀ (Z : ja_H) (cw' : Nat → jLan), jfr jWk X Z → jAS Z md un (upd rd (M en) (nI (R + 1))) cw' (jPut bf (L (M en) * 5) v (fun v => jCr1 (decide (3 ≤ R + 1)) (nw v) (hl0 v))) bg → cw' v = jCr1 (decide (3 ≤ R + 1)) (nw v) (hl0 v) → (∀ v', v' < 5 → v' ≠ v → cw' v' = cw v') → K 109 [.ref 11, .ref 2, .int (nI en), .int (nI (M en)), .int (nI (L (M en) * 5)), .int (nI 0), .int (nI v), .ref (80 + 2 * (L (M en) * 5 + v))] [] Z 0 0 := by
          intro Z cw' f2 hZ hv1 hv2
          have hle2 := f2.1
          obtain ⟨fa, a1, a2⟩ := hZ.2.2.1
          have hb := (hZ.2.2.2.2.2.2.1 (L (M en) * 5 + v) (by omega)).1
          have hw := hZ.2.2.2.2.2.1 v (by omega)
          refine kw_aload hB A_closeRound_109 rfl ?_
          refine kw_aload_n hB A_closeRound_111 rfl ?_
          refine kw_getf hB A_closeRound_112 f_A_33 hZ.1 rfl ?_
          refine kw_iload hB A_closeRound_115 rfl ?_
          refine kn_aald hB A_closeRound_117 a1 rfl rfl (by omega) (by decide) (a2 _ (by omega)) ?_
          refine kw_callV hB A_closeRound_118 s_A_138 im_L_copy se_L_copy hb.choose_spec.choose_spec.choose_spec.1 rfl rfl (As := [.ref (70 + 2 * v)]) (w_L_copy l D g hb hw (by omega)) rfl (by decide) (Nat.le_of_ble_eq_true rfl) (by omega) (by omega) (fun r X1 hq hl => ?_)
          obtain ⟨rfl, e3, e4⟩ := hq
          have hZ1 := hZ.bef e4 (by omega) e3
          rw [hv1] at hZ1
          refine kn_iinc hB A_closeRound_121 rfl (by decide) rfl ?_
          refine kw_goto hB A_closeRound_124 ?_
          rw [show nI 0 = nI (jDn nw hl0 (v + 1)).toNat by rw [← hdn]; rfl]
          refine ih (v + 1) _ _ cw' (by omega) (f2.tr (e4.mono (fun k hk => ?_))) (by rw [← jPut_s]; exact hZ1) (fun v' hv' => ?_) (fun v' h1 h2 => ?_)
          · rw [jWk_mem]; simp only [List.mem_cons, List.not_mem_nil, or_false] at hk; omega
          · by_cases hvv : v' = v
            · subst hvv; exact hv1
            · rw [hv2 v' (by omega) hvv]; exact c1 v' (by omega)
          · rw [hv2 v' h2 (by omega)]; exact c2 v' (by omega) h2
        refine kw_iconst hB A_closeRound_79 (v := nI 0) (by decide) ?_
        refine kw_istore hB A_closeRound_80 (by decide) rfl ?_
        refine kw_aload_n hB A_closeRound_82 rfl ?_
        refine kw_getf hB A_closeRound_83 f_A_21 e1.1 rfl ?_
        refine kw_iload_n hB A_closeRound_86 rfl ?_
        refine kn_iald hB A_closeRound_87 e1.2.2.2.2.2.2.2.2 rfl (by omega) (by decide) ?_
        rw [pk_us]
        refine kw_iconst hB A_closeRound_88 (v := nI 3) (by decide) ?_
        refine kn_icmp_lt hB A_closeRound_89 hR31 (by decide) (fun hc3 => ?_) (fun hc3 => ?_)
        · refine fin _ _ f1 e1 ?_ (fun v' _ hne => jup_ne hne)
          rw [jup_self]
          unfold jCr1
          rw [if_neg he, decide_eq_false (by omega)]
          rfl
        · refine kw_aload_n hB A_closeRound_92 rfl ?_
          refine kw_getf hB A_closeRound_93 f_A_33 e1.1 rfl ?_
          refine kw_iload hB A_closeRound_96 rfl ?_
          refine kn_aald hB A_closeRound_98 a1 rfl rfl (by omega) (by decide) (a2 _ (by omega)) ?_
          refine kw_aload_n hB A_closeRound_99 rfl ?_
          refine kw_getf hB A_closeRound_100 f_A_33 e1.1 rfl ?_
          refine kw_iload hB A_closeRound_103 rfl ?_
          refine kn_aald hB A_closeRound_105 a1 rfl rfl (by omega) (by decide) (a2 _ (by omega)) ?_
          refine kw_callV hB A_closeRound_106 s_A_208 im_L_becomeWide se_L_becomeWide hw.1.choose_spec.1.1 rfl rfl (As := [.ref (70 + 2 * v)]) (w_L_becomeWide l D g hw.x hw) rfl (by decide) (Nat.le_of_ble_eq_true rfl) (by omega) (by omega) (fun r X1 hq hl => ?_)
          obtain ⟨rfl, e3, e4⟩ := hq
          refine fin X1 _ (f1.tr (e4.mono (fun k hk => ?_))) (e1.nw1 e4 (by omega) e3) ?_ (fun v' _ hne => ?_)
          · rw [jWk_mem]; simp only [List.mem_cons, List.not_mem_nil, or_false] at hk; omega
          · rw [jup_self]
            unfold jCr1
            rw [if_neg he, decide_eq_true (by omega)]
            rfl
          · rw [jup_ne hne, jup_ne hne]
  refine kw_aload_n hB A_closeRound_0 rfl ?_
  refine kw_getf hB A_closeRound_1 f_A_115 r.1 rfl ?_
  refine kw_iload_n hB A_closeRound_4 rfl ?_
  refine kn_iald hB A_closeRound_5 r.2.2.2.2.2.1 rfl (by omega) (by decide) ?_
  rw [m1]
  refine kw_istore_n hB A_closeRound_6 rfl (by decide) rfl ?_
  refine kw_aload_n hB A_closeRound_7 rfl ?_
  refine kw_getf hB A_closeRound_8 f_A_211 r.1 rfl ?_
  refine kw_iload_n hB A_closeRound_11 rfl ?_
  refine kn_iald hB A_closeRound_12 r.2.2.2.2.2.2.1 rfl (by omega) (by decide) ?_
  rw [k1]
  refine kw_iconst hB A_closeRound_13 (v := nI 5) (by decide) ?_
  refine kn_imul hB A_closeRound_14 ?_
  refine kw_istore hB A_closeRound_15 (by decide) rfl ?_
  refine kw_aload_n hB A_closeRound_17 rfl ?_
  refine kw_getf hB A_closeRound_18 f_A_21 h.1 rfl ?_
  refine kw_iload_n hB A_closeRound_21 rfl ?_
  refine kw_dup2 hB A_closeRound_22 rfl rfl ?_
  refine kn_iald hB A_closeRound_23 h.2.2.2.2.2.2.2.2 rfl (by omega) (by decide) ?_
  rw [hrd]
  refine kw_iconst hB A_closeRound_24 (v := nI 1) (by decide) ?_
  refine kn_iadd hB A_closeRound_25 ?_
  refine kn_iast hB A_closeRound_26 h.2.2.2.2.2.2.2.2 rfl (by omega) (by decide) ?_
  refine kw_iconst hB A_closeRound_27 (v := nI 1) (by decide) ?_
  refine kw_istore hB A_closeRound_28 (by decide) rfl ?_
  refine kw_iconst hB A_closeRound_30 (v := nI 0) (by decide) ?_
  refine kw_istore hB A_closeRound_31 (by decide) rfl ?_
  obtain ⟨z1, z2⟩ := h.rds (rd' := upd rd (M en) (nI (R + 1)))
  exact loop 5 0 _ _ nw (by omega) z2 (by rw [jPut_0]; exact z1) (fun v' hv' => absurd hv' (by omega)) (fun _ _ _ => rfl)
end JCR
