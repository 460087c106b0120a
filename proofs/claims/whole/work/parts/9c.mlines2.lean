-- the model: set, get, join, apply, sink, when, loop, other, end, clear
section JML3
variable (l : Launch) (D : va_G) (g : Nat × Nat) {X Y : ja_H} {n s : Nat} {K V A B M L : Nat → Nat} {σ : Nat → List (Nat × Nat)} {md : Bool} {ip wd pl : Nat → Nat} {hn : Nat} {ed : Int32}
theorem jsc_up {sc : Nat → Int32} {u w : Int32} {j : Nat} (h0 : j ≠ 0) (h15 : j ≠ 15) : upd (upd sc 0 u) 15 w j = sc j := by rw [pk_un h15, pk_un h0]
theorem jpl_md : ∀ k ∈ [145, 146, 147, 148, 149, 150, 152, 153], 145 ≤ k ∧ k < 155 := by decide
theorem c_M_addP {k v a b : Nat} {x y z : Int32} {ok : Bool} (ex : x = nI v) (ey : y = nI a) (ez : z = nI b) (hk : k ≤ 3) (h : jMdl X n s K V A B M L σ md ip wd pl hn ed) (hP : jPP n s K V A B M L σ) (hn24 : n < 24) (hok : ok = true) : AMet l D g 0 0 0 m_M_add [.ref 145, .int (nI k), .int x, .int y, .int z] X (jAdM X n s K V A B M L σ ip wd pl hn ed ok k v a b) := by
  subst ex ey ez
  obtain ⟨sc, f, mf, rn, fa, he, ⟨q0, q10, q11, q15, q38, q39⟩, ⟨wh, on, tw, th, dp, bg, ol, el, bk, hp, hl, ho, hb⟩, h158, h159, h166, hi, -⟩ := h
  refine (c_M_add l D g (hp.pl he.c) q0 hn24).post (fun r X' hq => ?_)
  obtain ⟨rfl, h1, f1⟩ := hq
  refine jAdM_go (k := k) he h158 h159 h166 hi hP hn24 hok (jmay_p (by omega)) (by omega) hl ho hb ?_ h1.1 (by rw [pk_un (by decide), pk_us]) ?_ ?_ (pk_us ..) ?_ ?_ f1 jpl_md
  · have n9 : ¬ k = 9 := by omega
    have n8 : ¬ 8 ≤ k := by omega
    have n7 : ¬ k = 7 := by omega
    have n6 : ¬ k = 6 := by omega
    have n5 : ¬ k = 5 := by omega
    simp only [n9, n8, n7, n6, n5, or_self, if_false]
    rw [← q10]
    exact h1.2
  · rw [jsc_up (by decide) (by decide), q10, if_pos (by omega)]
  · rw [jsc_up (by decide) (by decide), q11, if_neg (by omega)]
  · rw [jsc_up (by decide) (by decide), q38]
  · rw [jsc_up (by decide) (by decide), q39]
theorem jAdM.len {ok : Bool} {k v a b : Nat} {r : Option Value} {X' : ja_H} (h : jAdM X n s K V A B M L σ ip wd pl hn ed ok k v a b r X') (hn24 : n ≤ 24) : X'.length = X.length ∧ ∃ x, r = some (.int x) := by
  cases ok with
  | false => have := h.2 (Or.inl rfl); exact ⟨by rw [this.2], _, this.1⟩
  | true =>
    by_cases hc : n = 24
    · have := h.2 (Or.inr hc); exact ⟨by rw [this.2], _, this.1⟩
    · have := h.1 rfl (by omega); exact ⟨this.2.2.1, _, this.1⟩
set_option maxHeartbeats 4000000 in
set_option maxRecDepth 100000 in
theorem c_M_set {x c : Int32} (h : jMdl X n s K V A B M L σ md ip wd pl hn ed) (hP : jPP n s K V A B M L σ) : AMet l D g 1 0 0 m_M_set [.ref 145, .int x, .int c] X (jAdM X n s K V A B M L σ ip wd pl hn ed (jin 5 x && jokc c) 0 (jv x) (jcw c) 0) := by
  have h0 := h
  have hn24 := hP.1
  obtain ⟨sc, f, mf, rn, fa, he, ⟨q0, -⟩, -⟩ := h
  refine ja_metK (by decide) rfl (Nat.le_of_ble_eq_true rfl) fun K9 hB hF => ?_
  have no : (jin 5 x && jokc c) = false ∨ n = 24 → K9 24 [.ref 145, .int x, .int c] [] X 0 0 := by
    intro hno
    refine kw_iconst hB M_set_24 (v := -1) (by decide) ?_
    refine kw_goto hB M_set_25 ?_
    refine kw_iret hF rfl M_set_36 ?_ (by first | (simp [jLs_len]; done) | (simp [*]; done))
    exact jAdM_no hno
  refine kw_aload_n hB M_set_0 rfl ?_
  refine kw_getf hB M_set_1 f_M_91 he.c rfl ?_
  rw [q0]
  refine kw_bipush hB M_set_4 (v := nI 24) (by decide) ?_
  refine kn_icmp_eq hB M_set_6 (by omega) (by decide) (fun z => no (Or.inr z)) (fun hn' => ?_)
  refine kw_iload_n hB M_set_9 rfl ?_
  refine kw_iconst hB M_set_10 (v := nI 5) (by decide) ?_
  refine kw_callS hB M_set_11 s_M_101 st_M_below (As := [.int x, .int (nI 5)]) (c_M_below l D g (m := 5) (by decide)) rfl (by decide) (Nat.le_of_ble_eq_true rfl) (by omega) (by omega) (fun r X1 hq hl => ?_)
  obtain ⟨rfl, hxeq⟩ := hq
  obtain rfl := hxeq.symm
  refine kn_if_eq hB M_set_14 (by cases jin 5 x <;> decide) (fun hz => no (Or.inl (by rw [jb_f hz]; rfl))) (fun hz => ?_)
  have h1 : jin 5 x = true := jb_t hz
  refine kw_iload_n hB M_set_17 rfl ?_
  refine kw_callS hB M_set_18 s_M_105 st_M_noConstant (As := [.int c]) (c_M_noConstant l D g) rfl (by decide) (Nat.le_of_ble_eq_true rfl) (by omega) (by omega) (fun r X1 hq hl => ?_)
  obtain ⟨rfl, hxeq⟩ := hq
  obtain rfl := hxeq.symm
  refine kn_if_eq hB M_set_21 (by cases jokc c <;> decide) (fun hz2 => ?_) (fun hz2 => no (Or.inl ?_))
  · have h2 : jokc c = true := by have := jb_f hz2; simpa using this
    obtain ⟨e1, e2⟩ := jin_v h1 (by decide)
    obtain ⟨e3, e4, e5⟩ := jokc_v h2
    refine kw_aload_n hB M_set_28 rfl ?_
    refine kw_iconst hB M_set_29 (v := nI 0) (by decide) ?_
    refine kw_iload_n hB M_set_30 rfl ?_
    refine kw_iload_n hB M_set_31 rfl ?_
    refine kw_iconst hB M_set_32 (v := nI 0) (by decide) ?_
    refine kw_callV hB M_set_33 s_M_109 im_M_add se_M_add he.c rfl rfl (As := [.int (nI 0), .int x, .int c, .int (nI 0)]) (c_M_addP l D g (k := 0) (ok := jin 5 x && jokc c) e1 e3 rfl (by decide) h0 hP (by omega) (by rw [h1, h2]; rfl)) rfl (by decide) (Nat.le_of_ble_eq_true rfl) (by omega) (by omega) (fun r X1 hq hl => ?_)
    obtain ⟨hl1, y, rfl⟩ := hq.len hn24
    refine kw_iret hF rfl M_set_36 hq (by omega)
  · have h2 : jokc c = false := by have := jb_t hz2; simpa using this
    rw [h2, Bool.and_false]
set_option maxHeartbeats 4000000 in
set_option maxRecDepth 100000 in
theorem c_M_get {x y : Int32} (h : jMdl X n s K V A B M L σ md ip wd pl hn ed) (hP : jPP n s K V A B M L σ) : AMet l D g 1 0 0 m_M_get [.ref 145, .int x, .int y] X (jAdM X n s K V A B M L σ ip wd pl hn ed (jin 5 x && jin 3 y) 1 (jv x) (jv y) 0) := by
  have h0 := h
  have hn24 := hP.1
  obtain ⟨sc, f, mf, rn, fa, he, ⟨q0, -⟩, -⟩ := h
  refine ja_metK (by decide) rfl (Nat.le_of_ble_eq_true rfl) fun K9 hB hF => ?_
  have no : (jin 5 x && jin 3 y) = false ∨ n = 24 → K9 25 [.ref 145, .int x, .int y] [] X 0 0 := by
    intro hno
    refine kw_iconst hB M_get_25 (v := -1) (by decide) ?_
    refine kw_goto hB M_get_26 ?_
    refine kw_iret hF rfl M_get_37 ?_ (by first | (simp [jLs_len]; done) | (simp [*]; done))
    exact jAdM_no hno
  refine kw_aload_n hB M_get_0 rfl ?_
  refine kw_getf hB M_get_1 f_M_91 he.c rfl ?_
  rw [q0]
  refine kw_bipush hB M_get_4 (v := nI 24) (by decide) ?_
  refine kn_icmp_eq hB M_get_6 (by omega) (by decide) (fun z => no (Or.inr z)) (fun hn' => ?_)
  refine kw_iload_n hB M_get_9 rfl ?_
  refine kw_iconst hB M_get_10 (v := nI 5) (by decide) ?_
  refine kw_callS hB M_get_11 s_M_101 st_M_below (As := [.int x, .int (nI 5)]) (c_M_below l D g (m := 5) (by decide)) rfl (by decide) (Nat.le_of_ble_eq_true rfl) (by omega) (by omega) (fun r X1 hq hl => ?_)
  obtain ⟨rfl, hxeq⟩ := hq
  obtain rfl := hxeq.symm
  refine kn_if_eq hB M_get_14 (by cases jin 5 x <;> decide) (fun hz => no (Or.inl (by rw [jb_f hz]; rfl))) (fun hz => ?_)
  have h1 : jin 5 x = true := jb_t hz
  refine kw_iload_n hB M_get_17 rfl ?_
  refine kw_iconst hB M_get_18 (v := nI 3) (by decide) ?_
  refine kw_callS hB M_get_19 s_M_101 st_M_below (As := [.int y, .int (nI 3)]) (c_M_below l D g (m := 3) (by decide)) rfl (by decide) (Nat.le_of_ble_eq_true rfl) (by omega) (by omega) (fun r X1 hq hl => ?_)
  obtain ⟨rfl, hxeq⟩ := hq
  obtain rfl := hxeq.symm
  refine kn_if_ne hB M_get_22 (by cases jin 3 y <;> decide) (fun hz2 => ?_) (fun hz2 => no (Or.inl (by rw [jb_f hz2, Bool.and_false])))
  have h2 : jin 3 y = true := jb_t hz2
  obtain ⟨e1, e2⟩ := jin_v h1 (by decide)
  obtain ⟨e3, e4⟩ := jin_v h2 (by decide)
  refine kw_aload_n hB M_get_29 rfl ?_
  refine kw_iconst hB M_get_30 (v := nI 1) (by decide) ?_
  refine kw_iload_n hB M_get_31 rfl ?_
  refine kw_iload_n hB M_get_32 rfl ?_
  refine kw_iconst hB M_get_33 (v := nI 0) (by decide) ?_
  refine kw_callV hB M_get_34 s_M_109 im_M_add se_M_add he.c rfl rfl (As := [.int (nI 1), .int x, .int y, .int (nI 0)]) (c_M_addP l D g (k := 1) (ok := jin 5 x && jin 3 y) e1 e3 rfl (by decide) h0 hP (by omega) (by rw [h1, h2]; rfl)) rfl (by decide) (Nat.le_of_ble_eq_true rfl) (by omega) (by omega) (fun r X1 hq hl => ?_)
  obtain ⟨hl1, y, rfl⟩ := hq.len hn24
  refine kw_iret hF rfl M_get_37 hq (by omega)
set_option maxHeartbeats 4000000 in
set_option maxRecDepth 100000 in
theorem c_M_join {x y z : Int32} (h : jMdl X n s K V A B M L σ md ip wd pl hn ed) (hP : jPP n s K V A B M L σ) : AMet l D g 1 0 0 m_M_join [.ref 145, .int x, .int y, .int z] X (jAdM X n s K V A B M L σ ip wd pl hn ed (jin 5 x && jin 5 y && jin 5 z) 2 (jv x) (jv y) (jv z)) := by
  have h0 := h
  have hn24 := hP.1
  obtain ⟨sc, f, mf, rn, fa, he, ⟨q0, -⟩, -⟩ := h
  refine ja_metK (by decide) rfl (Nat.le_of_ble_eq_true rfl) fun K9 hB hF => ?_
  have no : (jin 5 x && jin 5 y && jin 5 z) = false ∨ n = 24 → K9 33 [.ref 145, .int x, .int y, .int z] [] X 0 0 := by
    intro hno
    refine kw_iconst hB M_join_33 (v := -1) (by decide) ?_
    refine kw_goto hB M_join_34 ?_
    refine kw_iret hF rfl M_join_45 ?_ (by first | (simp [jLs_len]; done) | (simp [*]; done))
    exact jAdM_no hno
  refine kw_aload_n hB M_join_0 rfl ?_
  refine kw_getf hB M_join_1 f_M_91 he.c rfl ?_
  rw [q0]
  refine kw_bipush hB M_join_4 (v := nI 24) (by decide) ?_
  refine kn_icmp_eq hB M_join_6 (by omega) (by decide) (fun z => no (Or.inr z)) (fun hn' => ?_)
  refine kw_iload_n hB M_join_9 rfl ?_
  refine kw_iconst hB M_join_10 (v := nI 5) (by decide) ?_
  refine kw_callS hB M_join_11 s_M_101 st_M_below (As := [.int x, .int (nI 5)]) (c_M_below l D g (m := 5) (by decide)) rfl (by decide) (Nat.le_of_ble_eq_true rfl) (by omega) (by omega) (fun r X1 hq hl => ?_)
  obtain ⟨rfl, hxeq⟩ := hq
  obtain rfl := hxeq.symm
  refine kn_if_eq hB M_join_14 (by cases jin 5 x <;> decide) (fun hz => no (Or.inl (by rw [jb_f hz]; rfl))) (fun hz => ?_)
  have h1 : jin 5 x = true := jb_t hz
  refine kw_iload_n hB M_join_17 rfl ?_
  refine kw_iconst hB M_join_18 (v := nI 5) (by decide) ?_
  refine kw_callS hB M_join_19 s_M_101 st_M_below (As := [.int y, .int (nI 5)]) (c_M_below l D g (m := 5) (by decide)) rfl (by decide) (Nat.le_of_ble_eq_true rfl) (by omega) (by omega) (fun r X1 hq hl => ?_)
  obtain ⟨rfl, hxeq⟩ := hq
  obtain rfl := hxeq.symm
  refine kn_if_eq hB M_join_22 (by cases jin 5 y <;> decide) (fun hz2 => no (Or.inl (by rw [jb_f hz2, Bool.and_false]; rfl))) (fun hz2 => ?_)
  have h2 : jin 5 y = true := jb_t hz2
  refine kw_iload_n hB M_join_25 rfl ?_
  refine kw_iconst hB M_join_26 (v := nI 5) (by decide) ?_
  refine kw_callS hB M_join_27 s_M_101 st_M_below (As := [.int z, .int (nI 5)]) (c_M_below l D g (m := 5) (by decide)) rfl (by decide) (Nat.le_of_ble_eq_true rfl) (by omega) (by omega) (fun r X1 hq hl => ?_)
  obtain ⟨rfl, hxeq⟩ := hq
  obtain rfl := hxeq.symm
  refine kn_if_ne hB M_join_30 (by cases jin 5 z <;> decide) (fun hz3 => ?_) (fun hz3 => no (Or.inl (by rw [jb_f hz3, Bool.and_false])))
  have h3 : jin 5 z = true := jb_t hz3
  obtain ⟨e1, e2⟩ := jin_v h1 (by decide)
  obtain ⟨e3, e4⟩ := jin_v h2 (by decide)
  obtain ⟨e5, e6⟩ := jin_v h3 (by decide)
  refine kw_aload_n hB M_join_37 rfl ?_
  refine kw_iconst hB M_join_38 (v := nI 2) (by decide) ?_
  refine kw_iload_n hB M_join_39 rfl ?_
  refine kw_iload_n hB M_join_40 rfl ?_
  refine kw_iload_n hB M_join_41 rfl ?_
  refine kw_callV hB M_join_42 s_M_109 im_M_add se_M_add he.c rfl rfl (As := [.int (nI 2), .int x, .int y, .int z]) (c_M_addP l D g (k := 2) (ok := jin 5 x && jin 5 y && jin 5 z) e1 e3 e5 (by decide) h0 hP (by omega) (by rw [h1, h2, h3]; rfl)) rfl (by decide) (Nat.le_of_ble_eq_true rfl) (by omega) (by omega) (fun r X1 hq hl => ?_)
  obtain ⟨hl1, y, rfl⟩ := hq.len hn24
  refine kw_iret hF rfl M_join_45 hq (by omega)
set_option maxHeartbeats 4000000 in
set_option maxRecDepth 100000 in
theorem c_M_apply {x y z : Int32} (h : jMdl X n s K V A B M L σ md ip wd pl hn ed) (hP : jPP n s K V A B M L σ) : AMet l D g 1 0 0 m_M_apply [.ref 145, .int x, .int y, .int z] X (jAdM X n s K V A B M L σ ip wd pl hn ed (jin 5 x && jin 5 y && jin 3 z) 3 (jv x) (jv y) (jv z)) := by
  have h0 := h
  have hn24 := hP.1
  obtain ⟨sc, f, mf, rn, fa, he, ⟨q0, -⟩, -⟩ := h
  refine ja_metK (by decide) rfl (Nat.le_of_ble_eq_true rfl) fun K9 hB hF => ?_
  have no : (jin 5 x && jin 5 y && jin 3 z) = false ∨ n = 24 → K9 33 [.ref 145, .int x, .int y, .int z] [] X 0 0 := by
    intro hno
    refine kw_iconst hB M_apply_33 (v := -1) (by decide) ?_
    refine kw_goto hB M_apply_34 ?_
    refine kw_iret hF rfl M_apply_45 ?_ (by first | (simp [jLs_len]; done) | (simp [*]; done))
    exact jAdM_no hno
  refine kw_aload_n hB M_apply_0 rfl ?_
  refine kw_getf hB M_apply_1 f_M_91 he.c rfl ?_
  rw [q0]
  refine kw_bipush hB M_apply_4 (v := nI 24) (by decide) ?_
  refine kn_icmp_eq hB M_apply_6 (by omega) (by decide) (fun z => no (Or.inr z)) (fun hn' => ?_)
  refine kw_iload_n hB M_apply_9 rfl ?_
  refine kw_iconst hB M_apply_10 (v := nI 5) (by decide) ?_
  refine kw_callS hB M_apply_11 s_M_101 st_M_below (As := [.int x, .int (nI 5)]) (c_M_below l D g (m := 5) (by decide)) rfl (by decide) (Nat.le_of_ble_eq_true rfl) (by omega) (by omega) (fun r X1 hq hl => ?_)
  obtain ⟨rfl, hxeq⟩ := hq
  obtain rfl := hxeq.symm
  refine kn_if_eq hB M_apply_14 (by cases jin 5 x <;> decide) (fun hz => no (Or.inl (by rw [jb_f hz]; rfl))) (fun hz => ?_)
  have h1 : jin 5 x = true := jb_t hz
  refine kw_iload_n hB M_apply_17 rfl ?_
  refine kw_iconst hB M_apply_18 (v := nI 5) (by decide) ?_
  refine kw_callS hB M_apply_19 s_M_101 st_M_below (As := [.int y, .int (nI 5)]) (c_M_below l D g (m := 5) (by decide)) rfl (by decide) (Nat.le_of_ble_eq_true rfl) (by omega) (by omega) (fun r X1 hq hl => ?_)
  obtain ⟨rfl, hxeq⟩ := hq
  obtain rfl := hxeq.symm
  refine kn_if_eq hB M_apply_22 (by cases jin 5 y <;> decide) (fun hz2 => no (Or.inl (by rw [jb_f hz2, Bool.and_false]; rfl))) (fun hz2 => ?_)
  have h2 : jin 5 y = true := jb_t hz2
  refine kw_iload_n hB M_apply_25 rfl ?_
  refine kw_iconst hB M_apply_26 (v := nI 3) (by decide) ?_
  refine kw_callS hB M_apply_27 s_M_101 st_M_below (As := [.int z, .int (nI 3)]) (c_M_below l D g (m := 3) (by decide)) rfl (by decide) (Nat.le_of_ble_eq_true rfl) (by omega) (by omega) (fun r X1 hq hl => ?_)
  obtain ⟨rfl, hxeq⟩ := hq
  obtain rfl := hxeq.symm
  refine kn_if_ne hB M_apply_30 (by cases jin 3 z <;> decide) (fun hz3 => ?_) (fun hz3 => no (Or.inl (by rw [jb_f hz3, Bool.and_false])))
  have h3 : jin 3 z = true := jb_t hz3
  obtain ⟨e1, e2⟩ := jin_v h1 (by decide)
  obtain ⟨e3, e4⟩ := jin_v h2 (by decide)
  obtain ⟨e5, e6⟩ := jin_v h3 (by decide)
  refine kw_aload_n hB M_apply_37 rfl ?_
  refine kw_iconst hB M_apply_38 (v := nI 3) (by decide) ?_
  refine kw_iload_n hB M_apply_39 rfl ?_
  refine kw_iload_n hB M_apply_40 rfl ?_
  refine kw_iload_n hB M_apply_41 rfl ?_
  refine kw_callV hB M_apply_42 s_M_109 im_M_add se_M_add he.c rfl rfl (As := [.int (nI 3), .int x, .int y, .int z]) (c_M_addP l D g (k := 3) (ok := jin 5 x && jin 5 y && jin 3 z) e1 e3 e5 (by decide) h0 hP (by omega) (by rw [h1, h2, h3]; rfl)) rfl (by decide) (Nat.le_of_ble_eq_true rfl) (by omega) (by omega) (fun r X1 hq hl => ?_)
  obtain ⟨hl1, y, rfl⟩ := hq.len hn24
  refine kw_iret hF rfl M_apply_45 hq (by omega)
set_option maxHeartbeats 4000000 in
set_option maxRecDepth 100000 in
theorem c_M_sink {x : Int32} (h : jMdl X n s K V A B M L σ md ip wd pl hn ed) (hP : jPP n s K V A B M L σ) : AMet l D g 1 0 0 m_M_sink [.ref 145, .int x] X (jAdM X n s K V A B M L σ ip wd pl hn ed (jin 5 x && decide (s < 6)) 4 (jv x) s 0) := by
  have hn24 := hP.1
  have hs6 := hP.2.1
  obtain ⟨sc, f, mf, rn, fa, he, ⟨q0, q10, q11, q15, q38, q39⟩, ⟨wh, on, tw, th, dp, bg, ol, el, bk, hp, hrow, ho, hb⟩, h158, h159, h166, hi, -⟩ := h
  refine ja_metK (by decide) rfl (Nat.le_of_ble_eq_true rfl) fun K9 hB hF => ?_
  have no : (jin 5 x && decide (s < 6)) = false ∨ n = 24 → K9 26 [.ref 145, .int x] [] X 0 0 := by
    intro hno
    refine kw_iconst hB M_sink_26 (v := -1) (by decide) ?_
    refine kw_iret hF rfl M_sink_27 ?_ (by first | (simp [jLs_len]; done) | (simp [*]; done))
    exact jAdM_no hno
  refine kw_aload_n hB M_sink_0 rfl ?_
  refine kw_getf hB M_sink_1 f_M_91 he.c rfl ?_
  rw [q0]
  refine kw_bipush hB M_sink_4 (v := nI 24) (by decide) ?_
  refine kn_icmp_eq hB M_sink_6 (by omega) (by decide) (fun z => no (Or.inr z)) (fun hn' => ?_)
  refine kw_iload_n hB M_sink_9 rfl ?_
  refine kw_iconst hB M_sink_10 (v := nI 5) (by decide) ?_
  refine kw_callS hB M_sink_11 s_M_101 st_M_below (As := [.int x, .int (nI 5)]) (c_M_below l D g (m := 5) (by decide)) rfl (by decide) (Nat.le_of_ble_eq_true rfl) (by omega) (by omega) (fun r X1 hq hl => ?_)
  obtain ⟨rfl, hxeq⟩ := hq
  obtain rfl := hxeq.symm
  refine kn_if_eq hB M_sink_14 (by cases jin 5 x <;> decide) (fun hz => no (Or.inl (by rw [jb_f hz]; rfl))) (fun hz => ?_)
  have h1 : jin 5 x = true := jb_t hz
  obtain ⟨e1, e2⟩ := jin_v h1 (by decide)
  refine kw_aload_n hB M_sink_17 rfl ?_
  refine kw_getf hB M_sink_18 f_M_113 he.c rfl ?_
  rw [q11]
  refine kw_bipush hB M_sink_21 (v := nI 6) (by decide) ?_
  refine kn_icmp_ne hB M_sink_23 (by omega) (by decide) (fun z => ?_) (fun z => no (Or.inl (by rw [decide_eq_false (by omega), Bool.and_false])))
  refine kw_aload_n hB M_sink_28 rfl ?_
  refine kw_dup hB M_sink_29 rfl ?_
  refine kw_getf hB M_sink_30 f_M_113 he.c rfl ?_
  rw [q11]
  refine kw_iconst hB M_sink_33 (v := nI 1) (by decide) ?_
  refine kn_iadd hB M_sink_34 ?_
  refine km_put hB M_sink_35 he.c f_M_113 jw_M_11 (by decide) rfl rfl rfl ?_
  obtain ⟨h2, g2⟩ := he.put (s' := upd sc 11 (nI (s + 1)))
  have p2 := hp.fr g2 jmk_lo
  have f2 := jset_fr X 145 (jMo (upd sc 11 (nI (s + 1))))
  generalize X.set 145 (jMo (upd sc 11 (nI (s + 1)))) = Y1 at h2 g2 p2 f2
  have hl2 := g2.1
  refine kw_aload_n hB M_sink_38 rfl ?_
  refine kw_iconst hB M_sink_39 (v := nI 4) (by decide) ?_
  refine kw_iload_n hB M_sink_40 rfl ?_
  refine kw_aload_n hB M_sink_41 rfl ?_
  refine kw_getf hB M_sink_42 f_M_113 h2.c rfl ?_
  rw [pk_us]
  refine kw_iconst hB M_sink_45 (v := nI 1) (by decide) ?_
  refine kn_isub hB M_sink_46 (by omega) ?_
  refine kw_iconst hB M_sink_47 (v := nI 0) (by decide) ?_
  rw [show s + 1 - 1 = s from rfl]
  refine kw_callV hB M_sink_48 s_M_109 im_M_add se_M_add h2.c rfl rfl (As := [.int (nI 4), .int x, .int (nI s), .int (nI 0)]) (c_M_add l D g (n := n) (p2.pl h2.c) (by rw [pk_un (by decide), q0]) (by omega)) rfl (by decide) (Nat.le_of_ble_eq_true rfl) (by omega) (by omega) (fun r X1 hq hl => ?_)
  obtain ⟨rfl, h3, f3⟩ := hq
  have f23 := (f2.mono (T := [145, 146, 147, 148, 149, 150, 152, 153]) (by decide)).tr f3
  refine kw_iret hF rfl M_sink_51 (jAdM_go (k := 4) (v := jv x) (a := s) (b := 0) he h158 h159 h166 hi hP (by omega) (by rw [h1, decide_eq_true (by omega)]; rfl) (jmay_p (by decide)) (by decide) hrow ho hb ?_ h3.1 (by rw [pk_un (by decide), pk_us]) ?_ ?_ (pk_us ..) ?_ ?_ f23 jpl_md) f23.1
  · show jPa X1 (upd wh n (nI 4)) (upd on n (nI (jv x))) (upd tw n (nI s)) (upd th n (nI 0)) (upd dp n (nI (σ n).length)) bg (upd ol n (-1)) (upd el n (-1)) bk
    have h4 := h3.2
    rw [pk_un (show (10 : Nat) ≠ 11 by decide), q10] at h4
    rw [← e1]
    exact h4
  · rw [jsc_up (by decide) (by decide), pk_un (by decide), q10]; rfl
  · rw [jsc_up (by decide) (by decide), pk_us]; rfl
  · rw [jsc_up (by decide) (by decide), pk_un (by decide), q38]
  · rw [jsc_up (by decide) (by decide), pk_un (by decide), q39]
end JML3
