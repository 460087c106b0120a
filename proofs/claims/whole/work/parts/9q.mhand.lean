-- the model: hand
section JMR7
variable (l : Launch) (D : va_G) (g : Nat × Nat) {X : ja_H}
set_option maxHeartbeats 8000000 in
set_option maxRecDepth 100000 in
theorem c_M_hand {i v a hn x : Nat} {sc wh on tw th dp bg ol el bk plf : Nat → Int32} {vl wdf : Nat → Int64} (hc : X[145]? = some (jMo sc)) (hs : sc 39 = nI hn) (hh : hn < 2 ^ 30) (hp : jPa X wh on tw th dp bg ol el bk) (hvl : X[168]? = some (.inl (1, 5, .inr (.inl vl)))) (hwd : X[169]? = some (.inl (1, 20, .inr (.inl wdf)))) (hpl : X[170]? = some (.inl (0, 20, .inl plf))) (hi : i < 24) (r1 : on i = nI v) (r2 : tw i = nI a) (hv : v < 5) (hx : vl v = lN x) :
    AMet l D g 0 0 0 m_M_hand [.ref 145, .int (nI i)] X (fun r X' => r = none ∧ X' = if hn < 20 then ((X.set 169 (.inl (1, 20, .inr (.inl (vp_updL wdf hn (lN x)))))).set 170 (.inl (0, 20, .inl (upd plf hn (nI a))))).set 145 (jMo (upd sc 39 (nI (hn + 1)))) else X.set 145 (jMo (upd sc 39 (nI (hn + 1))))) := by
  refine ja_metK (by decide) rfl (Nat.le_of_ble_eq_true rfl) fun K hB hF => ?_
  have fin : ∀ (Y : ja_H), Y[145]? = some (jMo sc) → Y.length = X.length → Y.set 145 (jMo (upd sc 39 (nI (hn + 1)))) = (if hn < 20 then ((X.set 169 (.inl (1, 20, .inr (.inl (vp_updL wdf hn (lN x)))))).set 170 (.inl (0, 20, .inl (upd plf hn (nI a))))).set 145 (jMo (upd sc 39 (nI (hn + 1)))) else X.set 145 (jMo (upd sc 39 (nI (hn + 1))))) → K 44 [.ref 145, .int (nI i)] [] Y 0 0 := by
    intro Y hY hlen e
    refine kw_aload_n hB M_hand_44 rfl ?_
    refine kw_dup hB M_hand_45 rfl ?_
    refine kw_getf hB M_hand_46 f_M_296 hY rfl ?_
    rw [hs]
    refine kw_iconst hB M_hand_49 (v := nI 1) (by decide) ?_
    refine kn_iadd hB M_hand_50 ?_
    refine km_put hB M_hand_51 hY f_M_296 jw_M_39 (by decide) rfl rfl rfl ?_
    refine kw_vret hF rfl M_hand_54 ⟨rfl, e⟩ (by simp; omega)
  refine kw_aload_n hB M_hand_0 rfl ?_
  refine kw_getf hB M_hand_1 f_M_296 hc rfl ?_
  rw [hs]
  refine kw_bipush hB M_hand_4 (v := nI 20) (by decide) ?_
  refine kn_icmp_ge hB M_hand_6 (by omega) (by decide) (fun z => fin X hc rfl (by rw [if_neg (by omega)])) (fun z => ?_)
  refine kw_aload_n hB M_hand_9 rfl ?_
  refine kw_getf hB M_hand_10 f_M_85 hc rfl ?_
  refine kw_aload_n hB M_hand_13 rfl ?_
  refine kw_getf hB M_hand_14 f_M_296 hc rfl ?_
  rw [hs]
  refine kw_aload_n hB M_hand_17 rfl ?_
  refine kw_getf hB M_hand_18 f_M_77 hc rfl ?_
  refine kw_aload_n hB M_hand_21 rfl ?_
  refine kw_getf hB M_hand_22 f_M_13 hc rfl ?_
  refine kw_iload_n hB M_hand_25 rfl ?_
  refine kn_iald hB M_hand_26 hp.2.1 rfl hi (by decide) ?_
  rw [r1]
  refine kn_lald hB M_hand_27 hvl rfl hv (by decide) ?_
  rw [hx]
  refine kn_last hB M_hand_28 hwd rfl z (by decide) ?_
  have f1 := jset_fr X 169 (.inl (1, 20, .inr (.inl (vp_updL wdf hn (lN x)))))
  have n1 : ∀ k, k ≠ 169 → k ∉ [169] := fun k hk z => hk (List.mem_singleton.mp z)
  have c1 := f1.at (n1 145 (by decide)) hc
  have p1 := f1.at (n1 170 (by decide)) hpl
  have q1 := hp.fr f1 (fun k hk => by have := List.mem_singleton.mp hk; omega)
  refine kw_aload_n hB M_hand_29 rfl ?_
  refine kw_getf hB M_hand_30 f_M_88 c1 rfl ?_
  refine kw_aload_n hB M_hand_33 rfl ?_
  refine kw_getf hB M_hand_34 f_M_296 c1 rfl ?_
  rw [hs]
  refine kw_aload_n hB M_hand_37 rfl ?_
  refine kw_getf hB M_hand_38 f_M_16 c1 rfl ?_
  refine kw_iload_n hB M_hand_41 rfl ?_
  refine kn_iald hB M_hand_42 q1.2.2.1 rfl hi (by decide) ?_
  rw [r2]
  refine kn_iast hB M_hand_43 p1 rfl z (by decide) ?_
  refine fin _ ?_ (by simp) (by rw [if_pos z])
  rw [List.getElem?_set_ne (by decide)]
  exact c1
end JMR7
