-- Program: its methods
section JRP
variable (l : Launch) (D : va_G) (g : Nat × Nat) {X : ja_H}
set_option maxHeartbeats 4000000 in
set_option maxRecDepth 100000 in
theorem c_R_openBlock {p n k o : Nat} {kd vr fs sc mt lv pt hd : Nat → Int32} (h : jRr X p kd vr fs sc mt lv (nI n) (nI k) (nI o) pt hd) (hn : n < 24) (ho : o < 3) : AMet l D g 0 0 0 m_R_openBlock [.ref p] X (fun r X' => r = none ∧ jRr X' p kd vr fs sc mt (upd lv n (nI o)) (nI n) (nI k) (nI (o + 1)) (upd pt o (nI n)) (upd hd o (nI n)) ∧ jfr (jRrS p) X X') := by
  refine ja_metK (by decide) rfl (Nat.le_of_ble_eq_true rfl) fun K hB hF => ?_
  refine kw_aload_n hB R_openBlock_0 rfl ?_
  refine kw_getf hB R_openBlock_1 f_R_27 h.1 rfl ?_
  refine kw_aload_n hB R_openBlock_4 rfl ?_
  refine kw_getf hB R_openBlock_5 f_R_36 h.1 rfl ?_
  refine kw_aload_n hB R_openBlock_8 rfl ?_
  refine kw_getf hB R_openBlock_9 f_R_43 h.1 rfl ?_
  refine kn_iast hB R_openBlock_12 h.2.2.2.2.2.2.1 rfl (by omega) (by decide) ?_
  have h1x := h.s_lv (lv' := upd lv n (nI o))
  have e1x := jRrS_set X p 6 (.inl (0, 24, .inl (upd lv n (nI o)))) (by decide)
  generalize X.set (p + 6) (.inl (0, 24, .inl (upd lv n (nI o)))) = Y1 at h1x e1x ⊢
  refine kw_aload_n hB R_openBlock_13 rfl ?_
  refine kw_getf hB R_openBlock_14 f_R_33 h1x.1 rfl ?_
  refine kw_aload_n hB R_openBlock_17 rfl ?_
  refine kw_getf hB R_openBlock_18 f_R_43 h1x.1 rfl ?_
  refine kw_aload_n hB R_openBlock_21 rfl ?_
  refine kw_getf hB R_openBlock_22 f_R_36 h1x.1 rfl ?_
  refine kn_iast hB R_openBlock_25 h1x.2.2.2.2.2.2.2.2 rfl (by omega) (by decide) ?_
  have h2x := h1x.s_hd (hd' := upd hd o (nI n))
  have e2x := e1x.tr (jRrS_set Y1 p 8 (.inl (0, 3, .inl (upd hd o (nI n)))) (by decide))
  generalize Y1.set (p + 8) (.inl (0, 3, .inl (upd hd o (nI n)))) = Y2 at h2x e2x ⊢
  refine kw_aload_n hB R_openBlock_26 rfl ?_
  refine kw_getf hB R_openBlock_27 f_R_30 h2x.1 rfl ?_
  refine kw_aload_n hB R_openBlock_30 rfl ?_
  refine kw_getf hB R_openBlock_31 f_R_43 h2x.1 rfl ?_
  refine kw_aload_n hB R_openBlock_34 rfl ?_
  refine kw_getf hB R_openBlock_35 f_R_36 h2x.1 rfl ?_
  refine kn_iast hB R_openBlock_38 h2x.2.2.2.2.2.2.2.1 rfl (by omega) (by decide) ?_
  have h3x := h2x.s_pt (pt' := upd pt o (nI n))
  have e3x := e2x.tr (jRrS_set Y2 p 7 (.inl (0, 3, .inl (upd pt o (nI n)))) (by decide))
  generalize Y2.set (p + 7) (.inl (0, 3, .inl (upd pt o (nI n)))) = Y3 at h3x e3x ⊢
  refine kw_aload_n hB R_openBlock_39 rfl ?_
  refine kw_dup hB R_openBlock_40 rfl ?_
  refine kw_getf hB R_openBlock_41 f_R_43 h3x.1 rfl ?_
  refine kw_iconst hB R_openBlock_44 (v := nI 1) (by decide) ?_
  refine kn_iadd hB R_openBlock_45 ?_
  refine kw_putf hB R_openBlock_46 f_R_43 jc_R jw_R_8 h3x.1 (Nat.le_of_ble_eq_true rfl) rfl rfl ?_
  have h4x := h3x.s_op (op' := nI (o + 1))
  show K 49 _ _ (Y3.set p (.inr (1, [.ref (p + 1), .ref (p + 2), .ref (p + 3), .ref (p + 4), .ref (p + 5), .ref (p + 6), .int (nI n), .int (nI k), .int (nI (o + 1)), .ref (p + 7), .ref (p + 8)]))) _ _
  have e4x := e3x.tr (jRrS_set0 Y3 p (.inr (1, [.ref (p + 1), .ref (p + 2), .ref (p + 3), .ref (p + 4), .ref (p + 5), .ref (p + 6), .int (nI n), .int (nI k), .int (nI (o + 1)), .ref (p + 7), .ref (p + 8)])))
  generalize Y3.set p (.inr (1, [.ref (p + 1), .ref (p + 2), .ref (p + 3), .ref (p + 4), .ref (p + 5), .ref (p + 6), .int (nI n), .int (nI k), .int (nI (o + 1)), .ref (p + 7), .ref (p + 8)])) = Y4 at h4x e4x ⊢
  refine kw_vret hF rfl R_openBlock_49 ?_ (by rw [e4x.1]; rfl)
  exact ⟨rfl, h4x, e4x⟩
set_option maxHeartbeats 4000000 in
set_option maxRecDepth 100000 in
theorem c_R_openOther {p n k o : Nat} {kd vr fs sc mt lv pt hd : Nat → Int32} {w : Nat} (h : jRr X p kd vr fs sc mt lv (nI n) (nI k) (nI o) pt hd) (hn : n < 24) (ho : 1 ≤ o) (ho3 : o ≤ 3) (hpt : pt (o - 1) = nI w) (hw : w < 24) : AMet l D g 0 0 0 m_R_openOther [.ref p] X (fun r X' => r = none ∧ jRr X' p kd vr fs sc (upd mt w (nI n)) lv (nI n) (nI k) (nI o) (upd pt (o - 1) (nI n)) hd ∧ jfr (jRrS p) X X') := by
  refine ja_metK (by decide) rfl (Nat.le_of_ble_eq_true rfl) fun K hB hF => ?_
  refine kw_aload_n hB R_openOther_0 rfl ?_
  refine kw_getf hB R_openOther_1 f_R_24 h.1 rfl ?_
  refine kw_aload_n hB R_openOther_4 rfl ?_
  refine kw_getf hB R_openOther_5 f_R_30 h.1 rfl ?_
  refine kw_aload_n hB R_openOther_8 rfl ?_
  refine kw_getf hB R_openOther_9 f_R_43 h.1 rfl ?_
  refine kw_iconst hB R_openOther_12 (v := nI 1) (by decide) ?_
  refine kn_isub hB R_openOther_13 (by omega) ?_
  refine kn_iald hB R_openOther_14 h.2.2.2.2.2.2.2.1 rfl (by omega) (by decide) ?_
  rw [hpt]
  refine kw_aload_n hB R_openOther_15 rfl ?_
  refine kw_getf hB R_openOther_16 f_R_36 h.1 rfl ?_
  refine kn_iast hB R_openOther_19 h.2.2.2.2.2.1 rfl (by omega) (by decide) ?_
  have h1x := h.s_mt (mt' := upd mt w (nI n))
  have e1x := jRrS_set X p 5 (.inl (0, 24, .inl (upd mt w (nI n)))) (by decide)
  generalize X.set (p + 5) (.inl (0, 24, .inl (upd mt w (nI n)))) = Y1 at h1x e1x ⊢
  refine kw_aload_n hB R_openOther_20 rfl ?_
  refine kw_getf hB R_openOther_21 f_R_30 h1x.1 rfl ?_
  refine kw_aload_n hB R_openOther_24 rfl ?_
  refine kw_getf hB R_openOther_25 f_R_43 h1x.1 rfl ?_
  refine kw_iconst hB R_openOther_28 (v := nI 1) (by decide) ?_
  refine kn_isub hB R_openOther_29 (by omega) ?_
  refine kw_aload_n hB R_openOther_30 rfl ?_
  refine kw_getf hB R_openOther_31 f_R_36 h1x.1 rfl ?_
  refine kn_iast hB R_openOther_34 h1x.2.2.2.2.2.2.2.1 rfl (by omega) (by decide) ?_
  have h2x := h1x.s_pt (pt' := upd pt (o - 1) (nI n))
  have e2x := e1x.tr (jRrS_set Y1 p 7 (.inl (0, 3, .inl (upd pt (o - 1) (nI n)))) (by decide))
  generalize Y1.set (p + 7) (.inl (0, 3, .inl (upd pt (o - 1) (nI n)))) = Y2 at h2x e2x ⊢
  refine kw_vret hF rfl R_openOther_35 ?_ (by rw [e2x.1]; rfl)
  exact ⟨rfl, h2x, e2x⟩
set_option maxHeartbeats 4000000 in
set_option maxRecDepth 100000 in
theorem c_R_closeBlock {p n k o : Nat} {kd vr fs sc mt lv pt hd : Nat → Int32} {w : Nat} (h : jRr X p kd vr fs sc mt lv (nI n) (nI k) (nI o) pt hd) (hn : n < 24) (ho : 1 ≤ o) (ho3 : o ≤ 3) (hpt : pt (o - 1) = nI w) (hw : w < 24) : AMet l D g 0 0 0 m_R_closeBlock [.ref p] X (fun r X' => r = none ∧ jRr X' p kd vr fs sc (upd (upd mt w (nI n)) n (hd (o - 1))) (upd lv n (nI (o - 1))) (nI n) (nI k) (nI (o - 1)) pt hd ∧ jfr (jRrS p) X X') := by
  refine ja_metK (by decide) rfl (Nat.le_of_ble_eq_true rfl) fun K hB hF => ?_
  refine kw_aload_n hB R_closeBlock_0 rfl ?_
  refine kw_dup hB R_closeBlock_1 rfl ?_
  refine kw_getf hB R_closeBlock_2 f_R_43 h.1 rfl ?_
  refine kw_iconst hB R_closeBlock_5 (v := nI 1) (by decide) ?_
  refine kn_isub hB R_closeBlock_6 (by omega) ?_
  refine kw_putf hB R_closeBlock_7 f_R_43 jc_R jw_R_8 h.1 (Nat.le_of_ble_eq_true rfl) rfl rfl ?_
  have h1x := h.s_op (op' := nI (o - 1))
  show K 10 _ _ (X.set p (.inr (1, [.ref (p + 1), .ref (p + 2), .ref (p + 3), .ref (p + 4), .ref (p + 5), .ref (p + 6), .int (nI n), .int (nI k), .int (nI (o - 1)), .ref (p + 7), .ref (p + 8)]))) _ _
  have e1x := jRrS_set0 X p (.inr (1, [.ref (p + 1), .ref (p + 2), .ref (p + 3), .ref (p + 4), .ref (p + 5), .ref (p + 6), .int (nI n), .int (nI k), .int (nI (o - 1)), .ref (p + 7), .ref (p + 8)]))
  generalize X.set p (.inr (1, [.ref (p + 1), .ref (p + 2), .ref (p + 3), .ref (p + 4), .ref (p + 5), .ref (p + 6), .int (nI n), .int (nI k), .int (nI (o - 1)), .ref (p + 7), .ref (p + 8)])) = Y1 at h1x e1x ⊢
  refine kw_aload_n hB R_closeBlock_10 rfl ?_
  refine kw_getf hB R_closeBlock_11 f_R_27 h1x.1 rfl ?_
  refine kw_aload_n hB R_closeBlock_14 rfl ?_
  refine kw_getf hB R_closeBlock_15 f_R_36 h1x.1 rfl ?_
  refine kw_aload_n hB R_closeBlock_18 rfl ?_
  refine kw_getf hB R_closeBlock_19 f_R_43 h1x.1 rfl ?_
  refine kn_iast hB R_closeBlock_22 h1x.2.2.2.2.2.2.1 rfl (by omega) (by decide) ?_
  have h2x := h1x.s_lv (lv' := upd lv n (nI (o - 1)))
  have e2x := e1x.tr (jRrS_set Y1 p 6 (.inl (0, 24, .inl (upd lv n (nI (o - 1))))) (by decide))
  generalize Y1.set (p + 6) (.inl (0, 24, .inl (upd lv n (nI (o - 1))))) = Y2 at h2x e2x ⊢
  refine kw_aload_n hB R_closeBlock_23 rfl ?_
  refine kw_getf hB R_closeBlock_24 f_R_24 h2x.1 rfl ?_
  refine kw_aload_n hB R_closeBlock_27 rfl ?_
  refine kw_getf hB R_closeBlock_28 f_R_30 h2x.1 rfl ?_
  refine kw_aload_n hB R_closeBlock_31 rfl ?_
  refine kw_getf hB R_closeBlock_32 f_R_43 h2x.1 rfl ?_
  refine kn_iald hB R_closeBlock_35 h2x.2.2.2.2.2.2.2.1 rfl (by omega) (by decide) ?_
  rw [hpt]
  refine kw_aload_n hB R_closeBlock_36 rfl ?_
  refine kw_getf hB R_closeBlock_37 f_R_36 h2x.1 rfl ?_
  refine kn_iast hB R_closeBlock_40 h2x.2.2.2.2.2.1 rfl (by omega) (by decide) ?_
  have h3x := h2x.s_mt (mt' := upd mt w (nI n))
  have e3x := e2x.tr (jRrS_set Y2 p 5 (.inl (0, 24, .inl (upd mt w (nI n)))) (by decide))
  generalize Y2.set (p + 5) (.inl (0, 24, .inl (upd mt w (nI n)))) = Y3 at h3x e3x ⊢
  refine kw_aload_n hB R_closeBlock_41 rfl ?_
  refine kw_getf hB R_closeBlock_42 f_R_24 h3x.1 rfl ?_
  refine kw_aload_n hB R_closeBlock_45 rfl ?_
  refine kw_getf hB R_closeBlock_46 f_R_36 h3x.1 rfl ?_
  refine kw_aload_n hB R_closeBlock_49 rfl ?_
  refine kw_getf hB R_closeBlock_50 f_R_33 h3x.1 rfl ?_
  refine kw_aload_n hB R_closeBlock_53 rfl ?_
  refine kw_getf hB R_closeBlock_54 f_R_43 h3x.1 rfl ?_
  refine kn_iald hB R_closeBlock_57 h3x.2.2.2.2.2.2.2.2 rfl (by omega) (by decide) ?_
  refine kn_iast hB R_closeBlock_58 h3x.2.2.2.2.2.1 rfl (by omega) (by decide) ?_
  have h4x := h3x.s_mt (mt' := upd (upd mt w (nI n)) n (hd (o - 1)))
  have e4x := e3x.tr (jRrS_set Y3 p 5 (.inl (0, 24, .inl (upd (upd mt w (nI n)) n (hd (o - 1))))) (by decide))
  generalize Y3.set (p + 5) (.inl (0, 24, .inl (upd (upd mt w (nI n)) n (hd (o - 1))))) = Y4 at h4x e4x ⊢
  refine kw_vret hF rfl R_closeBlock_59 ?_ (by rw [e4x.1]; rfl)
  exact ⟨rfl, h4x, e4x⟩
set_option maxHeartbeats 4000000 in
set_option maxRecDepth 100000 in
theorem c_R_empty {p n k o : Nat} {kd vr fs sc mt lv pt hd : Nat → Int32} (h : jRr X p kd vr fs sc mt lv (nI n) (nI k) (nI o) pt hd) : AMet l D g 0 0 0 m_R_empty [.ref p] X (fun r X' => r = none ∧ jRr X' p kd vr fs sc mt lv (nI 0) (nI 0) (nI 0) pt hd ∧ jfr (jRrS p) X X') := by
  refine ja_metK (by decide) rfl (Nat.le_of_ble_eq_true rfl) fun K hB hF => ?_
  refine kw_aload_n hB R_empty_0 rfl ?_
  refine kw_iconst hB R_empty_1 (v := nI 0) (by decide) ?_
  refine kw_putf hB R_empty_2 f_R_36 jc_R jw_R_6 h.1 (Nat.le_of_ble_eq_true rfl) rfl rfl ?_
  have h1x := h.s_ct (ct' := nI 0)
  show K 5 _ _ (X.set p (.inr (1, [.ref (p + 1), .ref (p + 2), .ref (p + 3), .ref (p + 4), .ref (p + 5), .ref (p + 6), .int (nI 0), .int (nI k), .int (nI o), .ref (p + 7), .ref (p + 8)]))) _ _
  have e1x := jRrS_set0 X p (.inr (1, [.ref (p + 1), .ref (p + 2), .ref (p + 3), .ref (p + 4), .ref (p + 5), .ref (p + 6), .int (nI 0), .int (nI k), .int (nI o), .ref (p + 7), .ref (p + 8)]))
  generalize X.set p (.inr (1, [.ref (p + 1), .ref (p + 2), .ref (p + 3), .ref (p + 4), .ref (p + 5), .ref (p + 6), .int (nI 0), .int (nI k), .int (nI o), .ref (p + 7), .ref (p + 8)])) = Y1 at h1x e1x ⊢
  refine kw_aload_n hB R_empty_5 rfl ?_
  refine kw_iconst hB R_empty_6 (v := nI 0) (by decide) ?_
  refine kw_putf hB R_empty_7 f_R_40 jc_R jw_R_7 h1x.1 (Nat.le_of_ble_eq_true rfl) rfl rfl ?_
  have h2x := h1x.s_sk (sk' := nI 0)
  show K 10 _ _ (Y1.set p (.inr (1, [.ref (p + 1), .ref (p + 2), .ref (p + 3), .ref (p + 4), .ref (p + 5), .ref (p + 6), .int (nI 0), .int (nI 0), .int (nI o), .ref (p + 7), .ref (p + 8)]))) _ _
  have e2x := e1x.tr (jRrS_set0 Y1 p (.inr (1, [.ref (p + 1), .ref (p + 2), .ref (p + 3), .ref (p + 4), .ref (p + 5), .ref (p + 6), .int (nI 0), .int (nI 0), .int (nI o), .ref (p + 7), .ref (p + 8)])))
  generalize Y1.set p (.inr (1, [.ref (p + 1), .ref (p + 2), .ref (p + 3), .ref (p + 4), .ref (p + 5), .ref (p + 6), .int (nI 0), .int (nI 0), .int (nI o), .ref (p + 7), .ref (p + 8)])) = Y2 at h2x e2x ⊢
  refine kw_aload_n hB R_empty_10 rfl ?_
  refine kw_iconst hB R_empty_11 (v := nI 0) (by decide) ?_
  refine kw_putf hB R_empty_12 f_R_43 jc_R jw_R_8 h2x.1 (Nat.le_of_ble_eq_true rfl) rfl rfl ?_
  have h3x := h2x.s_op (op' := nI 0)
  show K 15 _ _ (Y2.set p (.inr (1, [.ref (p + 1), .ref (p + 2), .ref (p + 3), .ref (p + 4), .ref (p + 5), .ref (p + 6), .int (nI 0), .int (nI 0), .int (nI 0), .ref (p + 7), .ref (p + 8)]))) _ _
  have e3x := e2x.tr (jRrS_set0 Y2 p (.inr (1, [.ref (p + 1), .ref (p + 2), .ref (p + 3), .ref (p + 4), .ref (p + 5), .ref (p + 6), .int (nI 0), .int (nI 0), .int (nI 0), .ref (p + 7), .ref (p + 8)])))
  generalize Y2.set p (.inr (1, [.ref (p + 1), .ref (p + 2), .ref (p + 3), .ref (p + 4), .ref (p + 5), .ref (p + 6), .int (nI 0), .int (nI 0), .int (nI 0), .ref (p + 7), .ref (p + 8)])) = Y3 at h3x e3x ⊢
  refine kw_vret hF rfl R_empty_15 ?_ (by rw [e3x.1]; rfl)
  exact ⟨rfl, h3x, e3x⟩
set_option maxHeartbeats 4000000 in
set_option maxRecDepth 100000 in
theorem c_R_innermost {p n k o : Nat} {kd vr fs sc mt lv pt hd : Nat → Int32} {w : Nat} (h : jRr X p kd vr fs sc mt lv (nI n) (nI k) (nI o) pt hd) (ho3 : o ≤ 3) (hpt : 1 ≤ o → pt (o - 1) = nI w ∧ w < 24) : AMet l D g 0 0 0 m_R_innermost [.ref p] X (fun r X' => r = some (.int (if o = 0 then -1 else kd w)) ∧ X' = X) := by
  refine ja_metK (by decide) rfl (Nat.le_of_ble_eq_true rfl) fun K hB hF => ?_
  refine kw_aload_n hB R_innermost_0 rfl ?_
  refine kw_getf hB R_innermost_1 f_R_43 h.1 rfl ?_
  refine kn_if_ne hB R_innermost_4 (by omega) (fun hc => ?_) (fun hc => ?_)
  · refine kw_aload_n hB R_innermost_11 rfl ?_
    refine kw_getf hB R_innermost_12 f_R_11 h.1 rfl ?_
    refine kw_aload_n hB R_innermost_15 rfl ?_
    refine kw_getf hB R_innermost_16 f_R_30 h.1 rfl ?_
    refine kw_aload_n hB R_innermost_19 rfl ?_
    refine kw_getf hB R_innermost_20 f_R_43 h.1 rfl ?_
    refine kw_iconst hB R_innermost_23 (v := nI 1) (by decide) ?_
    refine kn_isub hB R_innermost_24 (by omega) ?_
    refine kn_iald hB R_innermost_25 h.2.2.2.2.2.2.2.1 rfl (by omega) (by decide) ?_
    rw [(hpt (by omega)).1]
    refine kn_iald hB R_innermost_26 h.2.1 rfl (hpt (by omega)).2 (by decide) ?_
    refine kw_iret hF rfl R_innermost_27 ?_ (by first | (simp [jLs_len]; done) | (simp [*]; done))
    exact ⟨by rw [if_neg hc], rfl⟩
  · refine kw_iconst hB R_innermost_7 (v := -1) (by decide) ?_
    refine kw_goto hB R_innermost_8 ?_
    refine kw_iret hF rfl R_innermost_27 ?_ (by first | (simp [jLs_len]; done) | (simp [*]; done))
    exact ⟨by rw [if_pos hc], rfl⟩
set_option maxHeartbeats 4000000 in
set_option maxRecDepth 100000 in
theorem c_R_hasOther {p n k o : Nat} {kd vr fs sc mt lv pt hd : Nat → Int32} {i w : Nat} (h : jRr X p kd vr fs sc mt lv (nI n) (nI k) (nI o) pt hd) (hi : i < 24) (hm : mt i = nI w) (hw : w < 24) : AMet l D g 0 0 0 m_R_hasOther [.ref p, .int (nI i)] X (fun r X' => r = some (.int (nI (decide (mt w ≠ nI i)).toNat)) ∧ X' = X) := by
  refine ja_metK (by decide) rfl (Nat.le_of_ble_eq_true rfl) fun K hB hF => ?_
  refine kw_aload_n hB R_hasOther_0 rfl ?_
  refine kw_getf hB R_hasOther_1 f_R_24 h.1 rfl ?_
  refine kw_aload_n hB R_hasOther_4 rfl ?_
  refine kw_getf hB R_hasOther_5 f_R_24 h.1 rfl ?_
  refine kw_iload_n hB R_hasOther_8 rfl ?_
  refine kn_iald hB R_hasOther_9 h.2.2.2.2.2.1 rfl (by omega) (by decide) ?_
  rw [hm]
  refine kn_iald hB R_hasOther_10 h.2.2.2.2.2.1 rfl (by omega) (by decide) ?_
  refine kw_iload_n hB R_hasOther_11 rfl ?_
  refine kw_icmp_eq hB R_hasOther_12 (fun hc => ?_) (fun hc => ?_)
  · refine kw_iconst hB R_hasOther_19 (v := nI 0) (by decide) ?_
    refine kw_zret hF rfl (by first | rfl | decide) R_hasOther_20 ?_ (by first | (simp [jLs_len]; done) | (simp [*]; done))
    exact ⟨by rw [decide_eq_false (fun z => z hc)]; rfl, rfl⟩
  · refine kw_iconst hB R_hasOther_15 (v := nI 1) (by decide) ?_
    refine kw_goto hB R_hasOther_16 ?_
    refine kw_zret hF rfl (by first | rfl | decide) R_hasOther_20 ?_ (by first | (simp [jLs_len]; done) | (simp [*]; done))
    exact ⟨by rw [decide_eq_true hc]; rfl, rfl⟩
set_option maxHeartbeats 4000000 in
set_option maxRecDepth 100000 in
theorem c_R_add {p n k o : Nat} {kd vr fs sc mt lv pt hd : Nat → Int32} {K0 w : Nat} {v a b : Int32} (h : jRr X p kd vr fs sc mt lv (nI n) (nI k) (nI o) pt hd) (hn : n < 24) (hK : K0 < 10) (hop : K0 = 5 ∨ K0 = 7 → o < 3) (hcl : K0 = 6 ∨ K0 = 8 ∨ K0 = 9 → 1 ≤ o ∧ o ≤ 3 ∧ pt (o - 1) = nI w ∧ w < 24) : AMet l D g 1 0 0 m_R_add [.ref p, .int (nI K0), .int v, .int a, .int b] X (fun r X' => r = some (.int (nI (n + 1))) ∧ jfr (jRrS p) X X' ∧ (K0 < 4 → jRr X' p (upd kd n (nI K0)) (upd vr n v) (upd fs n a) (upd sc n b) mt lv (nI (n + 1)) (nI k) (nI o) pt hd) ∧ (K0 = 4 → jRr X' p (upd kd n (nI K0)) (upd vr n v) (upd fs n a) (upd sc n b) mt lv (nI (n + 1)) (nI (k + 1)) (nI o) pt hd) ∧ (K0 = 5 ∨ K0 = 7 → jRr X' p (upd kd n (nI K0)) (upd vr n v) (upd fs n a) (upd sc n b) mt (upd lv n (nI o)) (nI (n + 1)) (nI k) (nI (o + 1)) (upd pt o (nI n)) (upd hd o (nI n))) ∧ (K0 = 6 → jRr X' p (upd kd n (nI K0)) (upd vr n v) (upd fs n a) (upd sc n b) (upd mt w (nI n)) lv (nI (n + 1)) (nI k) (nI o) (upd pt (o - 1) (nI n)) hd) ∧ (K0 = 8 ∨ K0 = 9 → jRr X' p (upd kd n (nI K0)) (upd vr n v) (upd fs n a) (upd sc n b) (upd (upd mt w (nI n)) n (hd (o - 1))) (upd lv n (nI (o - 1))) (nI (n + 1)) (nI k) (nI (o - 1)) pt hd)) := by
  refine ja_metK (by decide) rfl (Nat.le_of_ble_eq_true rfl) fun K hB hF => ?_
  refine kw_aload_n hB R_add_0 rfl ?_
  refine kw_getf hB R_add_1 f_R_11 h.1 rfl ?_
  refine kw_aload_n hB R_add_4 rfl ?_
  refine kw_getf hB R_add_5 f_R_36 h.1 rfl ?_
  refine kw_iload_n hB R_add_8 rfl ?_
  refine kn_iast hB R_add_9 h.2.1 rfl (by omega) (by decide) ?_
  have h1x := h.s_kd (kd' := upd kd n (nI K0))
  have e1x := jRrS_set X p 1 (.inl (0, 24, .inl (upd kd n (nI K0)))) (by decide)
  generalize X.set (p + 1) (.inl (0, 24, .inl (upd kd n (nI K0)))) = Y1 at h1x e1x ⊢
  refine kw_aload_n hB R_add_10 rfl ?_
  refine kw_getf hB R_add_11 f_R_15 h1x.1 rfl ?_
  refine kw_aload_n hB R_add_14 rfl ?_
  refine kw_getf hB R_add_15 f_R_36 h1x.1 rfl ?_
  refine kw_iload_n hB R_add_18 rfl ?_
  refine kn_iast hB R_add_19 h1x.2.2.1 rfl (by omega) (by decide) ?_
  have h2x := h1x.s_vr (vr' := upd vr n v)
  have e2x := e1x.tr (jRrS_set Y1 p 2 (.inl (0, 24, .inl (upd vr n v))) (by decide))
  generalize Y1.set (p + 2) (.inl (0, 24, .inl (upd vr n v))) = Y2 at h2x e2x ⊢
  refine kw_aload_n hB R_add_20 rfl ?_
  refine kw_getf hB R_add_21 f_R_18 h2x.1 rfl ?_
  refine kw_aload_n hB R_add_24 rfl ?_
  refine kw_getf hB R_add_25 f_R_36 h2x.1 rfl ?_
  refine kw_iload_n hB R_add_28 rfl ?_
  refine kn_iast hB R_add_29 h2x.2.2.2.1 rfl (by omega) (by decide) ?_
  have h3x := h2x.s_fs (fs' := upd fs n a)
  have e3x := e2x.tr (jRrS_set Y2 p 3 (.inl (0, 24, .inl (upd fs n a))) (by decide))
  generalize Y2.set (p + 3) (.inl (0, 24, .inl (upd fs n a))) = Y3 at h3x e3x ⊢
  refine kw_aload_n hB R_add_30 rfl ?_
  refine kw_getf hB R_add_31 f_R_21 h3x.1 rfl ?_
  refine kw_aload_n hB R_add_34 rfl ?_
  refine kw_getf hB R_add_35 f_R_36 h3x.1 rfl ?_
  refine kw_iload hB R_add_38 rfl ?_
  refine kn_iast hB R_add_40 h3x.2.2.2.2.1 rfl (by omega) (by decide) ?_
  have h4x := h3x.s_sc (sc' := upd sc n b)
  have e4x := e3x.tr (jRrS_set Y3 p 4 (.inl (0, 24, .inl (upd sc n b))) (by decide))
  generalize Y3.set (p + 4) (.inl (0, 24, .inl (upd sc n b))) = Y4 at h4x e4x ⊢
  have done : ∀ (mt2 lv2 pt2 hd2 : Nat → Int32) (sk2 op2 : Int32) (Z : ja_H), jRr Z p (upd kd n (nI K0)) (upd vr n v) (upd fs n a) (upd sc n b) mt2 lv2 (nI n) sk2 op2 pt2 hd2 → jfr (jRrS p) X Z → (∀ X', jRr X' p (upd kd n (nI K0)) (upd vr n v) (upd fs n a) (upd sc n b) mt2 lv2 (nI (n + 1)) sk2 op2 pt2 hd2 → (K0 < 4 → jRr X' p (upd kd n (nI K0)) (upd vr n v) (upd fs n a) (upd sc n b) mt lv (nI (n + 1)) (nI k) (nI o) pt hd) ∧ (K0 = 4 → jRr X' p (upd kd n (nI K0)) (upd vr n v) (upd fs n a) (upd sc n b) mt lv (nI (n + 1)) (nI (k + 1)) (nI o) pt hd) ∧ (K0 = 5 ∨ K0 = 7 → jRr X' p (upd kd n (nI K0)) (upd vr n v) (upd fs n a) (upd sc n b) mt (upd lv n (nI o)) (nI (n + 1)) (nI k) (nI (o + 1)) (upd pt o (nI n)) (upd hd o (nI n))) ∧ (K0 = 6 → jRr X' p (upd kd n (nI K0)) (upd vr n v) (upd fs n a) (upd sc n b) (upd mt w (nI n)) lv (nI (n + 1)) (nI k) (nI o) (upd pt (o - 1) (nI n)) hd) ∧ (K0 = 8 ∨ K0 = 9 → jRr X' p (upd kd n (nI K0)) (upd vr n v) (upd fs n a) (upd sc n b) (upd (upd mt w (nI n)) n (hd (o - 1))) (upd lv n (nI (o - 1))) (nI (n + 1)) (nI k) (nI (o - 1)) pt hd)) → K 106 [.ref p, .int (nI K0), .int v, .int a, .int b] [] Z 0 0 := by
    intro mt2 lv2 pt2 hd2 sk2 op2 Z hz ez hpost
    refine kw_aload_n hB R_add_106 rfl ?_
    refine kw_dup hB R_add_107 rfl ?_
    refine kw_getf hB R_add_108 f_R_36 hz.1 rfl ?_
    refine kw_iconst hB R_add_111 (v := nI 1) (by decide) ?_
    refine kn_iadd hB R_add_112 ?_
    refine kw_putf hB R_add_113 f_R_36 jc_R jw_R_6 hz.1 (Nat.le_of_ble_eq_true rfl) rfl rfl ?_
    have hz1 := hz.s_ct (ct' := nI (n + 1))
    have ez1 := ez.tr (jRrS_set0 Z p (.inr (1, [.ref (p + 1), .ref (p + 2), .ref (p + 3), .ref (p + 4), .ref (p + 5), .ref (p + 6), .int (nI (n + 1)), .int sk2, .int op2, .ref (p + 7), .ref (p + 8)])))
    show K 116 _ _ (Z.set p (.inr (1, [.ref (p + 1), .ref (p + 2), .ref (p + 3), .ref (p + 4), .ref (p + 5), .ref (p + 6), .int (nI (n + 1)), .int sk2, .int op2, .ref (p + 7), .ref (p + 8)]))) _ _
    generalize Z.set p (.inr (1, [.ref (p + 1), .ref (p + 2), .ref (p + 3), .ref (p + 4), .ref (p + 5), .ref (p + 6), .int (nI (n + 1)), .int sk2, .int op2, .ref (p + 7), .ref (p + 8)])) = Z1 at hz1 ez1 ⊢
    refine kw_aload_n hB R_add_116 rfl ?_
    refine kw_getf hB R_add_117 f_R_36 hz1.1 rfl ?_
    refine kw_iret hF rfl R_add_120 ?_ (by rw [ez1.1]; rfl)
    exact ⟨rfl, ez1, hpost Z1 hz1⟩
  refine kw_iload_n hB R_add_41 rfl ?_
  refine kw_iconst hB R_add_42 (v := nI 4) (by decide) ?_
  refine kn_icmp_ne hB R_add_43 (by omega) (by decide) (fun n4 => ?_) (fun n4 => ?_)
  rotate_left
  · subst n4
    refine kw_aload_n hB R_add_46 rfl ?_
    refine kw_dup hB R_add_47 rfl ?_
    refine kw_getf hB R_add_48 f_R_40 h4x.1 rfl ?_
    refine kw_iconst hB R_add_51 (v := nI 1) (by decide) ?_
    refine kn_iadd hB R_add_52 ?_
    refine kw_putf hB R_add_53 f_R_40 jc_R jw_R_7 h4x.1 (Nat.le_of_ble_eq_true rfl) rfl rfl ?_
    refine kw_goto hB R_add_56 ?_
    exact done _ _ _ _ _ _ _ (h4x.s_sk (sk' := nI (k + 1))) (e4x.tr (jRrS_set0 Y4 p _)) (fun X' hx => ⟨fun z => by omega, fun _ => hx, fun z => by omega, fun z => by omega, fun z => by omega⟩)
  have blk : K0 = 5 ∨ K0 = 7 → K 70 [.ref p, .int (nI K0), .int v, .int a, .int b] [] Y4 0 0 := by
    intro h57
    refine kw_aload_n hB R_add_70 rfl ?_
    refine kw_callV hB R_add_71 s_R_46 im_R_openBlock se_R_openBlock h4x.1 rfl rfl (As := []) (c_R_openBlock l D g h4x hn (hop h57)) rfl (by decide) (Nat.le_of_ble_eq_true rfl) (by omega) (by omega) (fun r X1 hq hl => ?_)
    obtain ⟨rfl, hq1, hq2⟩ := hq
    refine kw_goto hB R_add_74 ?_
    exact done _ _ _ _ _ _ _ hq1 (e4x.tr hq2) (fun X' hx => ⟨fun z => by omega, fun z => by omega, fun _ => hx, fun z => by omega, fun z => by omega⟩)
  have cls : K0 = 8 ∨ K0 = 9 → K 102 [.ref p, .int (nI K0), .int v, .int a, .int b] [] Y4 0 0 := by
    intro h89
    obtain ⟨c1, c2, c3, c4⟩ := hcl (by omega)
    refine kw_aload_n hB R_add_102 rfl ?_
    refine kw_callV hB R_add_103 s_R_52 im_R_closeBlock se_R_closeBlock h4x.1 rfl rfl (As := []) (c_R_closeBlock l D g h4x hn c1 c2 c3 c4) rfl (by decide) (Nat.le_of_ble_eq_true rfl) (by omega) (by omega) (fun r X1 hq hl => ?_)
    obtain ⟨rfl, hq1, hq2⟩ := hq
    exact done _ _ _ _ _ _ _ hq1 (e4x.tr hq2) (fun X' hx => ⟨fun z => by omega, fun z => by omega, fun z => by omega, fun z => by omega, fun _ => hx⟩)
  refine kw_iload_n hB R_add_59 rfl ?_
  refine kw_iconst hB R_add_60 (v := nI 5) (by decide) ?_
  refine kn_icmp_eq hB R_add_61 (by omega) (by decide) (fun h5 => blk (Or.inl h5)) (fun h5 => ?_)
  refine kw_iload_n hB R_add_64 rfl ?_
  refine kw_bipush hB R_add_65 (v := nI 7) (by decide) ?_
  refine kn_icmp_ne hB R_add_67 (by omega) (by decide) (fun h7 => ?_) (fun h7 => blk (Or.inr h7))
  refine kw_iload_n hB R_add_77 rfl ?_
  refine kw_bipush hB R_add_78 (v := nI 6) (by decide) ?_
  refine kn_icmp_ne hB R_add_80 (by omega) (by decide) (fun h6 => ?_) (fun h6 => ?_)
  rotate_left
  · obtain ⟨c1, c2, c3, c4⟩ := hcl (by omega)
    refine kw_aload_n hB R_add_83 rfl ?_
    refine kw_callV hB R_add_84 s_R_49 im_R_openOther se_R_openOther h4x.1 rfl rfl (As := []) (c_R_openOther l D g h4x hn c1 c2 c3 c4) rfl (by decide) (Nat.le_of_ble_eq_true rfl) (by omega) (by omega) (fun r X1 hq hl => ?_)
    obtain ⟨rfl, hq1, hq2⟩ := hq
    refine kw_goto hB R_add_87 ?_
    exact done _ _ _ _ _ _ _ hq1 (e4x.tr hq2) (fun X' hx => ⟨fun z => by omega, fun z => by omega, fun z => by omega, fun _ => hx, fun z => by omega⟩)
  refine kw_iload_n hB R_add_90 rfl ?_
  refine kw_bipush hB R_add_91 (v := nI 8) (by decide) ?_
  refine kn_icmp_eq hB R_add_93 (by omega) (by decide) (fun h8 => cls (Or.inl h8)) (fun h8 => ?_)
  refine kw_iload_n hB R_add_96 rfl ?_
  refine kw_bipush hB R_add_97 (v := nI 9) (by decide) ?_
  refine kn_icmp_ne hB R_add_99 (by omega) (by decide) (fun h9 => ?_) (fun h9 => cls (Or.inr h9))
  exact done _ _ _ _ _ _ _ h4x e4x (fun X' hx => ⟨fun _ => hx, fun z => by omega, fun z => by omega, fun z => by omega, fun z => by omega⟩)
end JRP
