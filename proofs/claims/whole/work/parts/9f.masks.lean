-- the model: size, rounds, give, ended, passed, place, witness
section JMK
variable (l : Launch) (D : va_G) (g : Nat × Nat) {X Y : ja_H} {n s : Nat} {K V A B M L : Nat → Nat} {σ : Nat → List (Nat × Nat)} {md : Bool} {ip wd pl : Nat → Nat} {hn : Nat} {ed : Int32}
set_option maxHeartbeats 4000000 in
set_option maxRecDepth 100000 in
theorem c_M_noSink {x : Int32} (h : jMdl X n s K V A B M L σ md ip wd pl hn ed) (hP : jPP n s K V A B M L σ) : AMet l D g 1 0 0 m_M_noSink [.ref 145, .int x] X (fun r X' => r = some (.int (nI (!(md && jin s x)).toNat)) ∧ X' = X) := by
  have hs6 := hP.2.1
  obtain ⟨sc, f, mf, rn, fa, he, ⟨q0, q10, q11, q15, q38, q39⟩, -⟩ := h
  refine ja_metK (by decide) rfl (Nat.le_of_ble_eq_true rfl) fun K9 hB hF => ?_
  have yes : (md && jin s x) = false → K9 18 [.ref 145, .int x] [] X 0 0 := by
    intro hno
    refine kw_iconst hB M_noSink_18 (v := nI 1) (by decide) ?_
    refine kw_goto hB M_noSink_19 ?_
    refine kw_zret hF rfl (by first | rfl | decide) M_noSink_23 ?_ (by first | (simp [jLs_len]; done) | (simp [*]; done))
    exact ⟨by rw [hno]; rfl, rfl⟩
  refine kw_aload_n hB M_noSink_0 rfl ?_
  refine kw_getf hB M_noSink_1 f_M_97 he.c rfl ?_
  rw [q15]
  refine kn_if_eq hB M_noSink_4 (by cases md <;> decide) (fun z => yes (by rw [jb_f z]; rfl)) (fun z => ?_)
  refine kw_iload_n hB M_noSink_7 rfl ?_
  refine kw_aload_n hB M_noSink_8 rfl ?_
  refine kw_getf hB M_noSink_9 f_M_113 he.c rfl ?_
  rw [q11]
  refine kw_callS hB M_noSink_12 s_M_101 st_M_below (As := [.int x, .int (nI s)]) (c_M_below l D g (m := s) (by omega)) rfl (by decide) (Nat.le_of_ble_eq_true rfl) (by omega) (by omega) (fun r X1 hq hl => ?_)
  obtain ⟨rfl, hxeq⟩ := hq
  obtain rfl := hxeq.symm
  refine kn_if_ne hB M_noSink_15 (by cases jin s x <;> decide) (fun z2 => ?_) (fun z2 => yes (by rw [jb_f z2, Bool.and_false]))
  refine kw_iconst hB M_noSink_22 (v := nI 0) (by decide) ?_
  refine kw_zret hF rfl (by first | rfl | decide) M_noSink_23 ?_ (by first | (simp [jLs_len]; done) | (simp [*]; done))
  exact ⟨by rw [jb_t z, jb_t z2]; rfl, rfl⟩
theorem jb_n {b : Bool} (h : (!b).toNat = 0) : b = true := by cases b <;> first | rfl | cases h
theorem jb_p {b : Bool} (h : (!b).toNat ≠ 0) : b = false := by cases b <;> first | rfl | exact absurd rfl h
set_option maxHeartbeats 4000000 in
set_option maxRecDepth 100000 in
theorem c_M_size {x : Int32} (h : jMdl X n s K V A B M L σ md ip wd pl hn ed) (hP : jPP n s K V A B M L σ) : AMet l D g 2 0 0 m_M_size [.ref 145, .int x] X (fun r X' => r = some (.int (if md && jin s x then nI (jSn (jFin n K V A B M L) (jv x)).1 else -1)) ∧ X' = X) := by
  have hs6 := hP.2.1
  have h0 := h
  obtain ⟨sc, f, mf, rn, fa, he, -, -, -, -, -, -, hmd⟩ := h
  refine ja_metK (by decide) rfl (Nat.le_of_ble_eq_true rfl) fun K9 hB hF => ?_
  refine kw_aload_n hB M_size_0 rfl ?_
  refine kw_iload_n hB M_size_1 rfl ?_
  refine kw_callV hB M_size_2 s_M_260 im_M_noSink se_M_noSink he.c rfl rfl (As := [.int x]) (c_M_noSink l D g h0 hP) rfl (by decide) (Nat.le_of_ble_eq_true rfl) (by omega) (by omega) (fun r X1 hq hl => ?_)
  obtain ⟨rfl, hxeq⟩ := hq
  obtain rfl := hxeq.symm
  refine kn_if_eq hB M_size_5 (by cases (md && jin s x) <;> decide) (fun hz => ?_) (fun hz => ?_)
  · have hz := jb_n hz
    rw [hz] at hF
    obtain ⟨hm, hx⟩ := Bool.and_eq_true_iff.mp hz
    obtain ⟨e1, e2⟩ := jin_v hx (by omega)
    have hL := (hmd hm).1 (jv x) e2
    obtain ⟨st, gd, tb, ht, hte⟩ := he.tr
    refine kw_aload_n hB M_size_12 rfl ?_
    refine kw_getf hB M_size_13 f_M_37 he.c rfl ?_
    refine kw_bipush hB M_size_16 (v := nI 35) (by decide) ?_
    refine kw_iload_n hB M_size_18 (v := nI (jv x)) (by rw [← e1]; rfl) ?_
    refine kn_iadd hB M_size_19 ?_
    refine kn_iald hB M_size_20 ht.2.1 rfl (by omega) (by decide) ?_
    rw [(hte _ _ (by omega) hL).2.1]
    refine kw_iret hF rfl M_size_21 ⟨rfl, rfl⟩ (by simp)
  · refine kw_iconst hB M_size_8 (v := -1) (by decide) ?_
    refine kw_goto hB M_size_9 ?_
    refine kw_iret hF rfl M_size_21 ?_ (by first | (simp [jLs_len]; done) | (simp [*]; done))
    exact ⟨by rw [jb_p hz]; rfl, rfl⟩
set_option maxHeartbeats 4000000 in
set_option maxRecDepth 100000 in
theorem c_M_rounds {x : Int32} (h : jMdl X n s K V A B M L σ md ip wd pl hn ed) (hP : jPP n s K V A B M L σ) : AMet l D g 1 0 0 m_M_rounds [.ref 145, .int x] X (fun r X' => r = some (.int (if md && jin n x && decide (K (jv x) = 7) then nI ((jFin n K V A B M L).2.1 (jv x)) else -1)) ∧ X' = X) := by
  have hn24 := hP.1
  obtain ⟨sc, f, mf, rn, fa, he, ⟨q0, q10, q11, q15, q38, q39⟩, ⟨wh, on, tw, th, dp, bg, ol, el, bk, hp, hrow, ho, hb⟩, h158, h159, h166, hi, hmd⟩ := h
  refine ja_metK (by decide) rfl (Nat.le_of_ble_eq_true rfl) fun K9 hB hF => ?_
  have no : (md && jin n x && decide (K (jv x) = 7)) = false → K9 29 [.ref 145, .int x] [] X 0 0 := by
    intro hno
    refine kw_iconst hB M_rounds_29 (v := -1) (by decide) ?_
    refine kw_goto hB M_rounds_30 ?_
    refine kw_iret hF rfl M_rounds_39 ?_ (by first | (simp [jLs_len]; done) | (simp [*]; done))
    exact ⟨by rw [hno]; rfl, rfl⟩
  refine kw_aload_n hB M_rounds_0 rfl ?_
  refine kw_getf hB M_rounds_1 f_M_97 he.c rfl ?_
  rw [q15]
  refine kn_if_eq hB M_rounds_4 (by cases md <;> decide) (fun z => no (by rw [jb_f z]; rfl)) (fun z => ?_)
  have hm := jb_t z
  refine kw_iload_n hB M_rounds_7 rfl ?_
  refine kw_aload_n hB M_rounds_8 rfl ?_
  refine kw_getf hB M_rounds_9 f_M_91 he.c rfl ?_
  rw [q0]
  refine kw_callS hB M_rounds_12 s_M_101 st_M_below (As := [.int x, .int (nI n)]) (c_M_below l D g (m := n) (by omega)) rfl (by decide) (Nat.le_of_ble_eq_true rfl) (by omega) (by omega) (fun r X1 hq hl => ?_)
  obtain ⟨rfl, hxeq⟩ := hq
  obtain rfl := hxeq.symm
  refine kn_if_eq hB M_rounds_15 (by cases jin n x <;> decide) (fun z2 => no (by rw [jb_f z2, Bool.and_false]; rfl)) (fun z2 => ?_)
  have hx := jb_t z2
  obtain ⟨e1, e2⟩ := jin_v hx (by omega)
  have k10 := (hP.2.2.2.2.2 _ e2).1
  refine kw_aload_n hB M_rounds_18 rfl ?_
  refine kw_getf hB M_rounds_19 f_M_7 he.c rfl ?_
  refine kw_iload_n hB M_rounds_22 (v := nI (jv x)) (by rw [← e1]; rfl) ?_
  refine kn_iald hB M_rounds_23 hp.1 rfl (by omega) (by decide) ?_
  rw [(hrow _ e2).1]
  refine kw_bipush hB M_rounds_24 (v := nI 7) (by decide) ?_
  refine kn_icmp_eq hB M_rounds_26 (by split <;> omega) (by decide) (fun z3 => ?_) (fun z3 => no ?_)
  · have k7 : K (jv x) = 7 := by split at z3 <;> omega
    refine kw_aload_n hB M_rounds_33 rfl ?_
    refine kw_getf hB M_rounds_34 f_M_47 he.c rfl ?_
    refine kw_iload_n hB M_rounds_37 (v := nI (jv x)) (by rw [← e1]; rfl) ?_
    refine kn_iald hB M_rounds_38 h158 rfl (by omega) (by decide) ?_
    rw [(hmd hm).2 _ e2 k7]
    refine kw_iret hF rfl M_rounds_39 ⟨by rw [hm, hx, decide_eq_true k7]; rfl, rfl⟩ (by simp)
  · rw [decide_eq_false, Bool.and_false]
    intro w
    rw [w] at z3
    exact z3 rfl
set_option maxHeartbeats 4000000 in
set_option maxRecDepth 100000 in
theorem c_M_give {x c : Int32} (h : jMdl X n s K V A B M L σ md ip wd pl hn ed) : AMet l D g 1 0 0 m_M_give [.ref 145, .int x, .int c] X (fun r X' => ((jin 3 x && jokc c) = true → r = some (.int (nI 1)) ∧ jMdl X' n s K V A B M L σ md (va_up ip (jv x) (jcw c)) wd pl hn ed ∧ jfr jMS X X') ∧ ((jin 3 x && jokc c) = false → r = some (.int (nI 0)) ∧ X' = X)) := by
  obtain ⟨sc, f, mf, rn, fa, he, hsc, hmp, h158, h159, h166, ⟨ipf, plf, wdf, vlf, i0, i1, i2, i3, i4, i5⟩, hmd⟩ := h
  refine ja_metK (by decide) rfl (Nat.le_of_ble_eq_true rfl) fun K9 hB hF => ?_
  have no : (jin 3 x && jokc c) = false → K9 15 [.ref 145, .int x, .int c] [] X 0 0 := by
    intro hno
    refine kw_iconst hB M_give_15 (v := nI 0) (by decide) ?_
    refine kw_zret hF rfl (by first | rfl | decide) M_give_16 ?_ (by first | (simp [jLs_len]; done) | (simp [*]; done))
    exact ⟨fun z => absurd (hno.symm.trans z) (by decide), fun _ => ⟨rfl, rfl⟩⟩
  refine kw_iload_n hB M_give_0 rfl ?_
  refine kw_iconst hB M_give_1 (v := nI 3) (by decide) ?_
  refine kw_callS hB M_give_2 s_M_101 st_M_below (As := [.int x, .int (nI 3)]) (c_M_below l D g (m := 3) (by decide)) rfl (by decide) (Nat.le_of_ble_eq_true rfl) (by omega) (by omega) (fun r X1 hq hl => ?_)
  obtain ⟨rfl, hxeq⟩ := hq
  obtain rfl := hxeq.symm
  refine kn_if_eq hB M_give_5 (by cases jin 3 x <;> decide) (fun z => no (by rw [jb_f z]; rfl)) (fun z => ?_)
  have hx := jb_t z
  refine kw_iload_n hB M_give_8 rfl ?_
  refine kw_callS hB M_give_9 s_M_105 st_M_noConstant (As := [.int c]) (c_M_noConstant l D g) rfl (by decide) (Nat.le_of_ble_eq_true rfl) (by omega) (by omega) (fun r X1 hq hl => ?_)
  obtain ⟨rfl, hxeq⟩ := hq
  obtain rfl := hxeq.symm
  refine kn_if_eq hB M_give_12 (by cases jokc c <;> decide) (fun z2 => ?_) (fun z2 => no (by rw [jb_p z2, Bool.and_false]))
  have hc := jb_n z2
  obtain ⟨e1, e2⟩ := jin_v hx (by decide)
  obtain ⟨e3, e4, e5⟩ := jokc_v hc
  refine kw_aload_n hB M_give_17 rfl ?_
  refine kw_getf hB M_give_18 f_M_74 he.c rfl ?_
  refine kw_iload_n hB M_give_21 (v := nI (jv x)) (by rw [← e1]; rfl) ?_
  refine kw_iload_n hB M_give_22 rfl ?_
  refine kn_iast hB M_give_23 i0 rfl (by omega) (by decide) ?_
  have f1 := jset_fr X 167 (.inl (0, 3, .inl (upd ipf (jv x) c)))
  have l167 : 167 < X.length := (List.getElem?_eq_some_iff.mp i0).1
  have n167 : ∀ k, k ≠ 167 → k ∉ [167] := fun k hk z => hk (List.mem_singleton.mp z)
  have g0 : (X.set 167 (.inl (0, 3, .inl (upd ipf (jv x) c))))[167]? = some (.inl (0, 3, .inl (upd ipf (jv x) c))) := List.getElem?_set_self l167
  refine kw_iconst hB M_give_24 (v := nI 1) (by decide) ?_
  refine kw_zret hF rfl (by decide) M_give_25 ⟨fun _ => ⟨rfl, ⟨sc, f, mf, rn, fa, he.fr f1 (fun k hk => by rw [List.mem_singleton.mp hk]; decide), hsc, hmp.fr f1 (fun k hk => by have := List.mem_singleton.mp hk; omega), f1.at (n167 _ (by decide)) h158, f1.at (n167 _ (by decide)) h159, f1.at (n167 _ (by decide)) h166, ⟨_, plf, wdf, vlf, g0, f1.at (n167 _ (by decide)) i1, f1.at (n167 _ (by decide)) i2, f1.at (n167 _ (by decide)) i3, fun i hi => ?_, i5⟩, hmd⟩, f1.mono (fun k hk => jMS_mem.mpr (by have := List.mem_singleton.mp hk; omega))⟩, fun z => absurd z (by rw [hx, hc]; decide)⟩ f1.1
  by_cases zz : i = jv x
  · subst zz; rw [pk_us, jup_self]; exact ⟨e3, e4, e5⟩
  · rw [pk_un zz, jup_ne zz]; exact i4 i hi
set_option maxHeartbeats 4000000 in
set_option maxRecDepth 100000 in
theorem c_M_ended (h : jMdl X n s K V A B M L σ md ip wd pl hn ed) : AMet l D g 0 0 0 m_M_ended [.ref 145] X (fun r X' => r = some (.int ed) ∧ X' = X) := by
  obtain ⟨sc, f, mf, rn, fa, he, ⟨q0, q10, q11, q15, q38, q39⟩, -⟩ := h
  refine ja_metK (by decide) rfl (Nat.le_of_ble_eq_true rfl) fun K9 hB hF => ?_
  refine kw_aload_n hB M_ended_0 rfl ?_
  refine kw_getf hB M_ended_1 f_M_81 he.c rfl ?_
  refine kw_iret hF rfl M_ended_4 ⟨by rw [q38], rfl⟩ (by simp)
set_option maxHeartbeats 4000000 in
set_option maxRecDepth 100000 in
theorem c_M_passed {x : Int32} (h : jMdl X n s K V A B M L σ md ip wd pl hn ed) (hhn : hn ≤ 1000) : AMet l D g 1 0 0 m_M_passed [.ref 145, .int x] X (fun r X' => r = some (.long (if jin 20 x && jin hn x then lN (wd (jv x)) else -1)) ∧ X' = X) := by
  obtain ⟨sc, f, mf, rn, fa, he, ⟨q0, q10, q11, q15, q38, q39⟩, hmp, h158, h159, h166, ⟨ipf, plf, wdf, vlf, i0, i1, i2, i3, i4, i5⟩, hmd⟩ := h
  refine ja_metK (by decide) rfl (Nat.le_of_ble_eq_true rfl) fun K9 hB hF => ?_
  have no : (jin 20 x && jin hn x) = false → K9 17 [.ref 145, .int x] [] X 0 0 := by
    intro hno
    refine kw_ldc2 hB M_passed_17 (v := -1) (jm 1232 (by decide +kernel) rfl) ?_
    refine kw_goto hB M_passed_20 ?_
    refine kw_lret hF rfl M_passed_29 ?_ (by first | (simp [jLs_len]; done) | (simp [*]; done))
    exact ⟨by rw [hno]; rfl, rfl⟩
  refine kw_iload_n hB M_passed_0 rfl ?_
  refine kw_bipush hB M_passed_1 (v := nI 20) (by decide) ?_
  refine kw_callS hB M_passed_3 s_M_101 st_M_below (As := [.int x, .int (nI 20)]) (c_M_below l D g (m := 20) (by decide)) rfl (by decide) (Nat.le_of_ble_eq_true rfl) (by omega) (by omega) (fun r X1 hq hl => ?_)
  obtain ⟨rfl, hxeq⟩ := hq
  obtain rfl := hxeq.symm
  refine kn_if_eq hB M_passed_6 (by cases jin 20 x <;> decide) (fun z => no (by rw [jb_f z]; rfl)) (fun z => ?_)
  have hx := jb_t z
  obtain ⟨e1, e2⟩ := jin_v hx (by decide)
  have e3 : jin hn x = decide (jv x < hn) := by rw [e1, jin_nI (by omega), jv_nI (by omega)]
  refine kw_iload_n hB M_passed_9 (v := nI (jv x)) (by rw [← e1]; rfl) ?_
  refine kw_aload_n hB M_passed_10 rfl ?_
  refine kw_getf hB M_passed_11 f_M_296 he.c rfl ?_
  rw [q39]
  refine kn_icmp_lt hB M_passed_14 (by omega) (by omega) (fun z2 => ?_) (fun z2 => no (by rw [e3, decide_eq_false (by omega), Bool.and_false]))
  refine kw_aload_n hB M_passed_23 rfl ?_
  refine kw_getf hB M_passed_24 f_M_85 he.c rfl ?_
  refine kw_iload_n hB M_passed_27 (v := nI (jv x)) (by rw [← e1]; rfl) ?_
  refine kn_lald hB M_passed_28 i2 rfl e2 (by decide) ?_
  rw [(i5 _ e2 z2).1]
  refine kw_lret hF rfl M_passed_29 ⟨by rw [hx, e3, decide_eq_true z2]; rfl, rfl⟩ (by simp)
set_option maxHeartbeats 4000000 in
set_option maxRecDepth 100000 in
theorem c_M_place {x : Int32} (h : jMdl X n s K V A B M L σ md ip wd pl hn ed) (hhn : hn ≤ 1000) : AMet l D g 1 0 0 m_M_place [.ref 145, .int x] X (fun r X' => r = some (.int (if jin 20 x && jin hn x then nI (pl (jv x)) else -1)) ∧ X' = X) := by
  obtain ⟨sc, f, mf, rn, fa, he, ⟨q0, q10, q11, q15, q38, q39⟩, hmp, h158, h159, h166, ⟨ipf, plf, wdf, vlf, i0, i1, i2, i3, i4, i5⟩, hmd⟩ := h
  refine ja_metK (by decide) rfl (Nat.le_of_ble_eq_true rfl) fun K9 hB hF => ?_
  have no : (jin 20 x && jin hn x) = false → K9 17 [.ref 145, .int x] [] X 0 0 := by
    intro hno
    refine kw_iconst hB M_place_17 (v := -1) (by decide) ?_
    refine kw_goto hB M_place_18 ?_
    refine kw_iret hF rfl M_place_27 ?_ (by first | (simp [jLs_len]; done) | (simp [*]; done))
    exact ⟨by rw [hno]; rfl, rfl⟩
  refine kw_iload_n hB M_place_0 rfl ?_
  refine kw_bipush hB M_place_1 (v := nI 20) (by decide) ?_
  refine kw_callS hB M_place_3 s_M_101 st_M_below (As := [.int x, .int (nI 20)]) (c_M_below l D g (m := 20) (by decide)) rfl (by decide) (Nat.le_of_ble_eq_true rfl) (by omega) (by omega) (fun r X1 hq hl => ?_)
  obtain ⟨rfl, hxeq⟩ := hq
  obtain rfl := hxeq.symm
  refine kn_if_eq hB M_place_6 (by cases jin 20 x <;> decide) (fun z => no (by rw [jb_f z]; rfl)) (fun z => ?_)
  have hx := jb_t z
  obtain ⟨e1, e2⟩ := jin_v hx (by decide)
  have e3 : jin hn x = decide (jv x < hn) := by rw [e1, jin_nI (by omega), jv_nI (by omega)]
  refine kw_iload_n hB M_place_9 (v := nI (jv x)) (by rw [← e1]; rfl) ?_
  refine kw_aload_n hB M_place_10 rfl ?_
  refine kw_getf hB M_place_11 f_M_296 he.c rfl ?_
  rw [q39]
  refine kn_icmp_lt hB M_place_14 (by omega) (by omega) (fun z2 => ?_) (fun z2 => no (by rw [e3, decide_eq_false (by omega), Bool.and_false]))
  refine kw_aload_n hB M_place_21 rfl ?_
  refine kw_getf hB M_place_22 f_M_88 he.c rfl ?_
  refine kw_iload_n hB M_place_25 (v := nI (jv x)) (by rw [← e1]; rfl) ?_
  refine kn_iald hB M_place_26 i3 rfl e2 (by decide) ?_
  rw [(i5 _ e2 z2).2]
  refine kw_iret hF rfl M_place_27 ⟨by rw [hx, e3, decide_eq_true z2]; rfl, rfl⟩ (by simp)
end JMK
