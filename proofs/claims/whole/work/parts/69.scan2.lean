-- TaintScanner: set, get, join, apply, sink, when, loop, other, end, clear
section JT2
variable (l : Launch) (D : va_G) (g : Nat × Nat) {X : ja_H} {n s : Nat} {K V A B M L : Nat → Nat} {σ : Nat → List (Nat × Nat)} {md : Bool} {ip wd pl : Nat → Nat} {hn : Nat} {ed : Int32}
theorem jmay_p {k : Nat} (h : k ≤ 4) : jMay K (σ n) k := ⟨fun z => by omega, fun z => by omega, fun z => by omega, fun z => by omega⟩
theorem jAdd.ok {ok : Bool} {k v a b : Nat} {r : Option Value} {X' : ja_H} (h : jAdd X n s K V A B M L σ ip wd pl hn ed true k v a b r X') (e : ok = true) : jAdd X n s K V A B M L σ ip wd pl hn ed ok k v a b r X' := by rw [e]; exact h
theorem jAdd.len {ok : Bool} {k v a b : Nat} {r : Option Value} {X' : ja_H} (h : jAdd X n s K V A B M L σ ip wd pl hn ed ok k v a b r X') (hn24 : n ≤ 24) : X'.length = X.length ∧ ∃ x, r = some (.int x) := by
  cases ok with
  | false => have := h.2 (Or.inl rfl); exact ⟨by rw [this.2], _, this.1⟩
  | true =>
    by_cases hc : n = 24
    · have := h.2 (Or.inr hc); exact ⟨by rw [this.2], _, this.1⟩
    · have := h.1 rfl (by omega); exact ⟨this.2.2.1, _, this.1⟩
set_option maxHeartbeats 4000000 in
set_option maxRecDepth 100000 in
theorem c_T_set {x c : Int32} (h : jCl X n s K V A B M L σ md ip wd pl hn ed) : AMet l D g 3 0 0 m_T_set [.ref 1, .int x, .int c] X (jAdd X n s K V A B M L σ ip wd pl hn ed (jin 5 x && jokc c) 0 (jv x) (jcw c) 0) := by
  refine ja_metK (by decide) rfl (Nat.le_of_ble_eq_true rfl) fun K9 hB hF => ?_
  have no : (jin 5 x && jokc c) = false → K9 14 [.ref 1, .int x, .int c] [] X 0 0 := by
    intro hno
    refine kw_iconst hB T_set_14 (v := -1) (by decide) ?_
    refine kw_iret hF rfl T_set_15 ?_ (by first | (simp [jLs_len]; done) | (simp [*]; done))
    exact jAdd_no hno
  refine kw_iload_n hB T_set_0 rfl ?_
  refine kw_callS hB T_set_1 s_T_30 st_T_isVariable (As := [.int x]) (c_T_isVariable l D g) rfl (by decide) (Nat.le_of_ble_eq_true rfl) (by omega) (by omega) (fun r X1 hq hl => ?_)
  obtain ⟨rfl, hxeq⟩ := hq
  obtain rfl := hxeq.symm
  refine kn_if_eq hB T_set_4 (by cases jin 5 x <;> decide) (fun hz => no ?_) (fun hz => ?_)
  · rw [jb_f hz]; rfl
  · refine kw_iload_n hB T_set_7 rfl ?_
    refine kw_callS hB T_set_8 s_T_34 st_W_isConstant (As := [.int c]) (c_W_isConstant l D g (jcw_eq c).1 (jcw_eq c).2) rfl (by decide) (Nat.le_of_ble_eq_true rfl) (by omega) (by omega) (fun r X1 hq hl => ?_)
    obtain ⟨rfl, hxeq⟩ := hq
    obtain rfl := hxeq.symm
    refine kn_if_ne hB T_set_11 (by cases jokw 6 4 (jcw c) <;> decide) (fun hz2 => ?_) (fun hz2 => no ?_)
    · have h1 : jin 5 x = true := jb_t hz
      have h2 : jokc c = true := jb_t hz2
      obtain ⟨e1, e2⟩ := jin_v h1 (by decide)
      obtain ⟨e3, e4, e5⟩ := jokc_v h2
      have ec := c_T_addLine l D g (k := 0) (v := jv x) (a := jcw c) (b := 0) h ⟨by decide, e2, fun _ => ⟨e4, e5⟩, fun z => by omega, fun z => by omega, fun z => by omega, fun z => by omega, fun z => by omega⟩ (fun z => by omega) (jmay_p (by decide))
      rw [← e1, ← e3] at ec
      refine kw_aload_n hB T_set_16 rfl ?_
      refine kw_iconst hB T_set_17 (v := nI 0) (by decide) ?_
      refine kw_iload_n hB T_set_18 rfl ?_
      refine kw_iload_n hB T_set_19 rfl ?_
      refine kw_iconst hB T_set_20 (v := nI 0) (by decide) ?_
      refine kw_callV hB T_set_21 s_T_39 im_T_addLine se_T_addLine h.1 rfl rfl (As := [.int (nI 0), .int x, .int c, .int (nI 0)]) (ec) rfl (by decide) (Nat.le_of_ble_eq_true rfl) (by omega) (by omega) (fun r X1 hq hl => ?_)
      obtain ⟨hl1, y, rfl⟩ := hq.len h.2.1.1
      refine kw_iret hF rfl T_set_24 (hq.ok (by rw [h1, h2]; rfl)) (by omega)
    · have h2 : jokc c = false := jb_f hz2
      rw [h2, Bool.and_false]
set_option maxHeartbeats 4000000 in
set_option maxRecDepth 100000 in
theorem c_T_get {x y : Int32} (h : jCl X n s K V A B M L σ md ip wd pl hn ed) : AMet l D g 3 0 0 m_T_get [.ref 1, .int x, .int y] X (jAdd X n s K V A B M L σ ip wd pl hn ed (jin 5 x && jin 3 y) 1 (jv x) (jv y) 0) := by
  refine ja_metK (by decide) rfl (Nat.le_of_ble_eq_true rfl) fun K9 hB hF => ?_
  have no : (jin 5 x && jin 3 y) = false → K9 14 [.ref 1, .int x, .int y] [] X 0 0 := by
    intro hno
    refine kw_iconst hB T_get_14 (v := -1) (by decide) ?_
    refine kw_iret hF rfl T_get_15 ?_ (by first | (simp [jLs_len]; done) | (simp [*]; done))
    exact jAdd_no hno
  refine kw_iload_n hB T_get_0 rfl ?_
  refine kw_callS hB T_get_1 s_T_30 st_T_isVariable (As := [.int x]) (c_T_isVariable l D g) rfl (by decide) (Nat.le_of_ble_eq_true rfl) (by omega) (by omega) (fun r X1 hq hl => ?_)
  obtain ⟨rfl, hxeq⟩ := hq
  obtain rfl := hxeq.symm
  refine kn_if_eq hB T_get_4 (by cases jin 5 x <;> decide) (fun hz => no ?_) (fun hz => ?_)
  · rw [jb_f hz]; rfl
  · refine kw_iload_n hB T_get_7 rfl ?_
    refine kw_callS hB T_get_8 s_T_43 st_T_isInput (As := [.int y]) (c_T_isInput l D g) rfl (by decide) (Nat.le_of_ble_eq_true rfl) (by omega) (by omega) (fun r X1 hq hl => ?_)
    obtain ⟨rfl, hxeq⟩ := hq
    obtain rfl := hxeq.symm
    refine kn_if_ne hB T_get_11 (by cases jin 3 y <;> decide) (fun hz2 => ?_) (fun hz2 => no ?_)
    · have h1 : jin 5 x = true := jb_t hz
      have h2 : jin 3 y = true := jb_t hz2
      obtain ⟨e1, e2⟩ := jin_v h1 (by decide)
      obtain ⟨e3, e4⟩ := jin_v h2 (by decide)
      have ec := c_T_addLine l D g (k := 1) (v := jv x) (a := jv y) (b := 0) h ⟨by decide, e2, fun z => by omega, fun z => e4, fun z => by omega, fun z => by omega, fun z => by omega, fun z => by omega⟩ (fun z => by omega) (jmay_p (by decide))
      rw [← e1, ← e3] at ec
      refine kw_aload_n hB T_get_16 rfl ?_
      refine kw_iconst hB T_get_17 (v := nI 1) (by decide) ?_
      refine kw_iload_n hB T_get_18 rfl ?_
      refine kw_iload_n hB T_get_19 rfl ?_
      refine kw_iconst hB T_get_20 (v := nI 0) (by decide) ?_
      refine kw_callV hB T_get_21 s_T_39 im_T_addLine se_T_addLine h.1 rfl rfl (As := [.int (nI 1), .int x, .int y, .int (nI 0)]) (ec) rfl (by decide) (Nat.le_of_ble_eq_true rfl) (by omega) (by omega) (fun r X1 hq hl => ?_)
      obtain ⟨hl1, y, rfl⟩ := hq.len h.2.1.1
      refine kw_iret hF rfl T_get_24 (hq.ok (by rw [h1, h2]; rfl)) (by omega)
    · rw [jb_f hz2, Bool.and_false]
set_option maxHeartbeats 4000000 in
set_option maxRecDepth 100000 in
theorem c_T_join {x y z : Int32} (h : jCl X n s K V A B M L σ md ip wd pl hn ed) : AMet l D g 3 0 0 m_T_join [.ref 1, .int x, .int y, .int z] X (jAdd X n s K V A B M L σ ip wd pl hn ed (jin 5 x && jin 5 y && jin 5 z) 2 (jv x) (jv y) (jv z)) := by
  refine ja_metK (by decide) rfl (Nat.le_of_ble_eq_true rfl) fun K9 hB hF => ?_
  have no : (jin 5 x && jin 5 y && jin 5 z) = false → K9 21 [.ref 1, .int x, .int y, .int z] [] X 0 0 := by
    intro hno
    refine kw_iconst hB T_join_21 (v := -1) (by decide) ?_
    refine kw_iret hF rfl T_join_22 ?_ (by first | (simp [jLs_len]; done) | (simp [*]; done))
    exact jAdd_no hno
  refine kw_iload_n hB T_join_0 rfl ?_
  refine kw_callS hB T_join_1 s_T_30 st_T_isVariable (As := [.int x]) (c_T_isVariable l D g) rfl (by decide) (Nat.le_of_ble_eq_true rfl) (by omega) (by omega) (fun r X1 hq hl => ?_)
  obtain ⟨rfl, hxeq⟩ := hq
  obtain rfl := hxeq.symm
  refine kn_if_eq hB T_join_4 (by cases jin 5 x <;> decide) (fun hz => no ?_) (fun hz => ?_)
  · rw [jb_f hz]; rfl
  refine kw_iload_n hB T_join_7 rfl ?_
  refine kw_callS hB T_join_8 s_T_30 st_T_isVariable (As := [.int y]) (c_T_isVariable l D g) rfl (by decide) (Nat.le_of_ble_eq_true rfl) (by omega) (by omega) (fun r X1 hq hl => ?_)
  obtain ⟨rfl, hxeq⟩ := hq
  obtain rfl := hxeq.symm
  refine kn_if_eq hB T_join_11 (by cases jin 5 y <;> decide) (fun hz2 => no ?_) (fun hz2 => ?_)
  · rw [jb_f hz2, Bool.and_false]; rfl
  refine kw_iload_n hB T_join_14 rfl ?_
  refine kw_callS hB T_join_15 s_T_30 st_T_isVariable (As := [.int z]) (c_T_isVariable l D g) rfl (by decide) (Nat.le_of_ble_eq_true rfl) (by omega) (by omega) (fun r X1 hq hl => ?_)
  obtain ⟨rfl, hxeq⟩ := hq
  obtain rfl := hxeq.symm
  refine kn_if_ne hB T_join_18 (by cases jin 5 z <;> decide) (fun hz3 => ?_) (fun hz3 => no ?_)
  · have h1 : jin 5 x = true := jb_t hz
    have h2 : jin 5 y = true := jb_t hz2
    have h3 : jin 5 z = true := jb_t hz3
    obtain ⟨e1, e2⟩ := jin_v h1 (by decide)
    obtain ⟨e3, e4⟩ := jin_v h2 (by decide)
    obtain ⟨e5, e6⟩ := jin_v h3 (by decide)
    have ec := c_T_addLine l D g (k := 2) (v := jv x) (a := jv y) (b := jv z) h ⟨by decide, e2, fun z => by omega, fun z => by omega, fun _ => ⟨e4, e6⟩, fun z => by omega, fun z => by omega, fun z => by omega⟩ (fun z => by omega) (jmay_p (by decide))
    rw [← e1, ← e3, ← e5] at ec
    refine kw_aload_n hB T_join_23 rfl ?_
    refine kw_iconst hB T_join_24 (v := nI 2) (by decide) ?_
    refine kw_iload_n hB T_join_25 rfl ?_
    refine kw_iload_n hB T_join_26 rfl ?_
    refine kw_iload_n hB T_join_27 rfl ?_
    refine kw_callV hB T_join_28 s_T_39 im_T_addLine se_T_addLine h.1 rfl rfl (As := [.int (nI 2), .int x, .int y, .int z]) (ec) rfl (by decide) (Nat.le_of_ble_eq_true rfl) (by omega) (by omega) (fun r X1 hq hl => ?_)
    obtain ⟨hl1, y, rfl⟩ := hq.len h.2.1.1
    refine kw_iret hF rfl T_join_31 (hq.ok (by rw [h1, h2, h3]; rfl)) (by omega)
  · rw [jb_f hz3, Bool.and_false]
set_option maxHeartbeats 4000000 in
set_option maxRecDepth 100000 in
theorem c_T_apply {x y z : Int32} (h : jCl X n s K V A B M L σ md ip wd pl hn ed) : AMet l D g 3 0 0 m_T_apply [.ref 1, .int x, .int y, .int z] X (jAdd X n s K V A B M L σ ip wd pl hn ed (jin 5 x && jin 5 y && jin 3 z) 3 (jv x) (jv y) (jv z)) := by
  refine ja_metK (by decide) rfl (Nat.le_of_ble_eq_true rfl) fun K9 hB hF => ?_
  have no : (jin 5 x && jin 5 y && jin 3 z) = false → K9 23 [.ref 1, .int x, .int y, .int z] [] X 0 0 := by
    intro hno
    refine kw_iconst hB T_apply_23 (v := -1) (by decide) ?_
    refine kw_iret hF rfl T_apply_24 ?_ (by first | (simp [jLs_len]; done) | (simp [*]; done))
    exact jAdd_no hno
  refine kw_iload_n hB T_apply_0 rfl ?_
  refine kw_callS hB T_apply_1 s_T_30 st_T_isVariable (As := [.int x]) (c_T_isVariable l D g) rfl (by decide) (Nat.le_of_ble_eq_true rfl) (by omega) (by omega) (fun r X1 hq hl => ?_)
  obtain ⟨rfl, hxeq⟩ := hq
  obtain rfl := hxeq.symm
  refine kn_if_eq hB T_apply_4 (by cases jin 5 x <;> decide) (fun hz => no ?_) (fun hz => ?_)
  · rw [jb_f hz]; rfl
  refine kw_iload_n hB T_apply_7 rfl ?_
  refine kw_callS hB T_apply_8 s_T_30 st_T_isVariable (As := [.int y]) (c_T_isVariable l D g) rfl (by decide) (Nat.le_of_ble_eq_true rfl) (by omega) (by omega) (fun r X1 hq hl => ?_)
  obtain ⟨rfl, hxeq⟩ := hq
  obtain rfl := hxeq.symm
  refine kn_if_eq hB T_apply_11 (by cases jin 5 y <;> decide) (fun hz2 => no ?_) (fun hz2 => ?_)
  · rw [jb_f hz2, Bool.and_false]; rfl
  refine kw_iload_n hB T_apply_14 rfl ?_
  refine kw_if_lt hB T_apply_15 (fun hc => no ?_) (fun hc => ?_)
  · rw [jin_neg hc, Bool.and_false]
  obtain ⟨w, hw, rfl⟩ := nI_of hc
  refine kw_iload_n hB T_apply_18 rfl ?_
  refine kw_iconst hB T_apply_19 (v := nI 2) (by decide) ?_
  refine kn_icmp_le hB T_apply_20 (by omega) (by decide) (fun hz3 => ?_) (fun hz3 => no ?_)
  · have h1 : jin 5 x = true := jb_t hz
    have h2 : jin 5 y = true := jb_t hz2
    have h3 : jin 3 (nI w) = true := by rw [jin_nI hw]; exact decide_eq_true (by omega)
    obtain ⟨e1, e2⟩ := jin_v h1 (by decide)
    obtain ⟨e3, e4⟩ := jin_v h2 (by decide)
    have ec := c_T_addLine l D g (k := 3) (v := jv x) (a := jv y) (b := w) h ⟨by decide, e2, fun z => by omega, fun z => by omega, fun z => by omega, fun _ => ⟨e4, by omega⟩, fun z => by omega, fun z => by omega⟩ (fun z => by omega) (jmay_p (by decide))
    rw [← e1, ← e3] at ec
    rw [jv_nI hw] at hF
    refine kw_aload_n hB T_apply_25 rfl ?_
    refine kw_iconst hB T_apply_26 (v := nI 3) (by decide) ?_
    refine kw_iload_n hB T_apply_27 rfl ?_
    refine kw_iload_n hB T_apply_28 rfl ?_
    refine kw_iload_n hB T_apply_29 rfl ?_
    refine kw_callV hB T_apply_30 s_T_39 im_T_addLine se_T_addLine h.1 rfl rfl (As := [.int (nI 3), .int x, .int y, .int (nI w)]) (ec) rfl (by decide) (Nat.le_of_ble_eq_true rfl) (by omega) (by omega) (fun r X1 hq hl => ?_)
    obtain ⟨hl1, y, rfl⟩ := hq.len h.2.1.1
    refine kw_iret hF rfl T_apply_33 (hq.ok (by rw [h1, h2, h3]; rfl)) (by omega)
  · rw [jin_nI hw, decide_eq_false (by omega), Bool.and_false]
set_option maxHeartbeats 4000000 in
set_option maxRecDepth 100000 in
theorem c_T_sink {x : Int32} (h : jCl X n s K V A B M L σ md ip wd pl hn ed) : AMet l D g 3 0 0 m_T_sink [.ref 1, .int x] X (jAdd X n s K V A B M L σ ip wd pl hn ed (jin 5 x && decide (s < 6)) 4 (jv x) s 0) := by
  obtain ⟨kd, vr, fs, sc, mt, lv, pt, hd, r, rl, rs⟩ := h.2.2.1
  have hs6 := h.2.1.2.1
  refine ja_metK (by decide) rfl (Nat.le_of_ble_eq_true rfl) fun K9 hB hF => ?_
  have no : (jin 5 x && decide (s < 6)) = false → K9 19 [.ref 1, .int x] [] X 0 0 := by
    intro hno
    refine kw_iconst hB T_sink_19 (v := -1) (by decide) ?_
    refine kw_iret hF rfl T_sink_20 ?_ (by first | (simp [jLs_len]; done) | (simp [*]; done))
    exact jAdd_no hno
  refine kw_iload_n hB T_sink_0 rfl ?_
  refine kw_callS hB T_sink_1 s_T_30 st_T_isVariable (As := [.int x]) (c_T_isVariable l D g) rfl (by decide) (Nat.le_of_ble_eq_true rfl) (by omega) (by omega) (fun r X1 hq hl => ?_)
  obtain ⟨rfl, hxeq⟩ := hq
  obtain rfl := hxeq.symm
  refine kn_if_eq hB T_sink_4 (by cases jin 5 x <;> decide) (fun hz => no ?_) (fun hz => ?_)
  · rw [jb_f hz]; rfl
  refine kw_aload_n hB T_sink_7 rfl ?_
  refine kw_getf hB T_sink_8 f_T_10 h.1 rfl ?_
  refine kw_getf hB T_sink_11 f_T_46 r.1 rfl ?_
  refine kw_bipush hB T_sink_14 (v := nI 6) (by decide) ?_
  refine kn_icmp_ne hB T_sink_16 (by omega) (by decide) (fun hz3 => ?_) (fun hz3 => no ?_)
  · have h1 : jin 5 x = true := jb_t hz
    obtain ⟨e1, e2⟩ := jin_v h1 (by decide)
    have ec := c_T_addLine l D g (k := 4) (v := jv x) (a := s) (b := 0) h ⟨by decide, e2, fun z => by omega, fun z => by omega, fun z => by omega, fun z => by omega, fun _ => by omega, fun z => by omega⟩ (fun _ => ⟨by omega, rfl⟩) (jmay_p (by decide))
    rw [← e1] at ec
    refine kw_aload_n hB T_sink_21 rfl ?_
    refine kw_iconst hB T_sink_22 (v := nI 4) (by decide) ?_
    refine kw_iload_n hB T_sink_23 rfl ?_
    refine kw_aload_n hB T_sink_24 rfl ?_
    refine kw_getf hB T_sink_25 f_T_10 h.1 rfl ?_
    refine kw_getf hB T_sink_28 f_T_46 r.1 rfl ?_
    refine kw_iconst hB T_sink_31 (v := nI 0) (by decide) ?_
    refine kw_callV hB T_sink_32 s_T_39 im_T_addLine se_T_addLine h.1 rfl rfl (As := [.int (nI 4), .int x, .int (nI s), .int (nI 0)]) (ec) rfl (by decide) (Nat.le_of_ble_eq_true rfl) (by omega) (by omega) (fun r X1 hq hl => ?_)
    obtain ⟨hl1, y, rfl⟩ := hq.len h.2.1.1
    refine kw_iret hF rfl T_sink_35 (hq.ok (by rw [h1, decide_eq_true (by omega)]; rfl)) (by omega)
  · rw [decide_eq_false (by omega), Bool.and_false]
set_option maxHeartbeats 4000000 in
set_option maxRecDepth 100000 in
theorem c_T_addOpening {k : Nat} {x y z : Int32} (h : jCl X n s K V A B M L σ md ip wd pl hn ed) (hk : k = 5 ∨ k = 7) : AMet l D g 3 0 0 m_T_addOpening [.ref 1, .int (nI k), .int x, .int y, .int z] X (jAdd X n s K V A B M L σ ip wd pl hn ed (jin 5 x && jin 3 y && (jin 5 z && decide (jv z ≠ 0)) && decide ((σ n).length < 3)) k (jv x) (jv y) (jv z)) := by
  obtain ⟨kd, vr, fs, sc, mt, lv, pt, hd, r, rl, rs⟩ := h.2.2.1
  have hl3 := h.2.1.2.2.1.len (Nat.le_refl n)
  refine ja_metK (by decide) rfl (Nat.le_of_ble_eq_true rfl) fun K9 hB hF => ?_
  have no51 : (jin 5 x && jin 3 y && (jin 5 z && decide (jv z ≠ 0)) && decide ((σ n).length < 3)) = false → ∀ u : Value, K9 51 [.ref 1, .int (nI k), .int x, .int y, .int z, u] [] X 0 0 := by
    intro hno u
    refine kw_iconst hB T_addOpening_51 (v := -1) (by decide) ?_
    refine kw_iret hF rfl T_addOpening_52 ?_ (by first | (simp [jLs_len]; done) | (simp [*]; done))
    exact jAdd_no hno
  have no : (jin 5 x && jin 3 y && (jin 5 z && decide (jv z ≠ 0))) = false → ∀ u : Value, K9 32 [.ref 1, .int (nI k), .int x, .int y, .int z, u] [] X 0 0 := by
    intro hno u
    refine kw_iconst hB T_addOpening_32 (v := nI 0) (by decide) ?_
    refine kw_istore hB T_addOpening_33 (by decide) rfl ?_
    refine kw_iload hB T_addOpening_35 rfl ?_
    refine kn_if_eq hB T_addOpening_37 (by decide) (fun _ => no51 (by rw [hno]; rfl) _) (fun hz => absurd rfl hz)
  refine kw_iload_n hB T_addOpening_0 rfl ?_
  refine kw_callS hB T_addOpening_1 s_T_30 st_T_isVariable (As := [.int x]) (c_T_isVariable l D g) rfl (by decide) (Nat.le_of_ble_eq_true rfl) (by omega) (by omega) (fun r X1 hq hl => ?_)
  obtain ⟨rfl, hxeq⟩ := hq
  obtain rfl := hxeq.symm
  refine kn_if_eq hB T_addOpening_4 (by cases jin 5 x <;> decide) (fun hz => no ?_ _) (fun hz => ?_)
  · rw [jb_f hz]; rfl
  refine kw_iload_n hB T_addOpening_7 rfl ?_
  refine kw_if_lt hB T_addOpening_8 (fun hc => no ?_ _) (fun hc => ?_)
  · rw [jin_neg (x := y) hc, Bool.and_false]; rfl
  obtain ⟨y, hy, rfl⟩ := nI_of hc
  refine kw_iload_n hB T_addOpening_11 rfl ?_
  refine kw_iconst hB T_addOpening_12 (v := nI 2) (by decide) ?_
  refine kn_icmp_gt hB T_addOpening_13 (by omega) (by decide) (fun hz2 => no ?_ _) (fun hz2 => ?_)
  · rw [jin_nI hy, decide_eq_false (show ¬ y < 3 by omega), Bool.and_false]; rfl
  refine kw_iload hB T_addOpening_16 rfl ?_
  refine kw_iconst hB T_addOpening_18 (v := nI 1) (by decide) ?_
  have z1 : (1 : Int32).toInt = 1 := by decide
  have z4 : (nI 4).toInt = 4 := by decide
  refine kw_icmp_lt hB T_addOpening_19 (fun hz3 => no ?_ _) (fun hz3 => ?_)
  · by_cases hn0 : z < 0
    · rw [jin_neg hn0]; simp
    · obtain ⟨z, hz, rfl⟩ := nI_of hn0
      have hz3 : z < 1 := (nI_ltI hz (by decide)).mp hz3
      rw [jv_nI hz, show z = 0 by omega]; simp
  obtain ⟨z, hzz, rfl⟩ : ∃ j, j < 2 ^ 31 ∧ z = nI j := nI_of (fun hn0 => hz3 (by
    have a1 := Int32.lt_iff_toInt_lt.mp hn0
    have a0 : (0 : Int32).toInt = 0 := by decide
    have a2 : (nI 1).toInt = 1 := by decide
    exact Int32.lt_iff_toInt_lt.mpr (by omega)))
  have hz3 : ¬ z < 1 := fun q => hz3 ((nI_ltI hzz (by decide)).mpr q)
  refine kw_iload hB T_addOpening_22 rfl ?_
  refine kw_iconst hB T_addOpening_24 (v := nI 4) (by decide) ?_
  refine kn_icmp_gt hB T_addOpening_25 (by omega) (by decide) (fun hz4 => no ?_ _) (fun hz4 => ?_)
  · rw [jin_nI hzz, decide_eq_false (show ¬ z < 5 by omega)]; simp
  have h1 : jin 5 x = true := jb_t hz
  have hall : (jin 5 x && jin 3 (nI y) && (jin 5 (nI z) && decide (jv (nI z) ≠ 0))) = true := by
    rw [h1, jin_nI hy, jin_nI hzz, jv_nI hzz, decide_eq_true (show y < 3 by omega), decide_eq_true (show z < 5 by omega), decide_eq_true (show z ≠ 0 by omega)]; rfl
  rw [hall, Bool.true_and] at no51 hF
  refine kw_iconst hB T_addOpening_28 (v := nI 1) (by decide) ?_
  refine kw_goto hB T_addOpening_29 ?_
  refine kw_istore hB T_addOpening_33 (by decide) rfl ?_
  refine kw_iload hB T_addOpening_35 rfl ?_
  refine kn_if_eq hB T_addOpening_37 (by decide) (fun q => absurd q (by decide)) (fun _ => ?_)
  refine kw_aload_n hB T_addOpening_40 rfl ?_
  refine kw_getf hB T_addOpening_41 f_T_10 h.1 rfl ?_
  refine kw_getf hB T_addOpening_44 f_T_57 r.1 rfl ?_
  refine kw_iconst hB T_addOpening_47 (v := nI 3) (by decide) ?_
  refine kn_icmp_ne hB T_addOpening_48 (by omega) (by decide) (fun hz5 => ?_) (fun hz5 => no51 ?_ _)
  · obtain ⟨e1, e2⟩ := jin_v h1 (by decide)
    rw [jv_nI hy, jv_nI hzz] at hF
    have ec := c_T_addLine l D g (k := k) (v := jv x) (a := y) (b := z) h ⟨by omega, e2, fun z => by omega, fun z => by omega, fun z => by omega, fun z => by omega, fun z => by omega, fun _ => ⟨by omega, by omega, by omega⟩⟩ (fun z => by omega) ⟨fun _ => by omega, fun z => by omega, fun z => by omega, fun z => by omega⟩
    rw [← e1] at ec
    refine kw_aload_n hB T_addOpening_53 rfl ?_
    refine kw_iload_n hB T_addOpening_54 rfl ?_
    refine kw_iload_n hB T_addOpening_55 rfl ?_
    refine kw_iload_n hB T_addOpening_56 rfl ?_
    refine kw_iload hB T_addOpening_57 rfl ?_
    refine kw_callV hB T_addOpening_59 s_T_39 im_T_addLine se_T_addLine h.1 rfl rfl (As := [.int (nI k), .int x, .int (nI y), .int (nI z)]) (ec) rfl (by decide) (Nat.le_of_ble_eq_true rfl) (by omega) (by omega) (fun r X1 hq hl => ?_)
    obtain ⟨hl1, y, rfl⟩ := hq.len h.2.1.1
    refine kw_iret hF rfl T_addOpening_62 (hq.ok (decide_eq_true (by omega))) (by omega)
  · exact decide_eq_false (by omega)
set_option maxHeartbeats 4000000 in
set_option maxRecDepth 100000 in
theorem c_T_when {x y z : Int32} (h : jCl X n s K V A B M L σ md ip wd pl hn ed) : AMet l D g 4 0 0 m_T_when [.ref 1, .int x, .int y, .int z] X (jAdd X n s K V A B M L σ ip wd pl hn ed (jin 5 x && jin 3 y && (jin 5 z && decide (jv z ≠ 0)) && decide ((σ n).length < 3)) 5 (jv x) (jv y) (jv z)) := by
  refine ja_metK (by decide) rfl (Nat.le_of_ble_eq_true rfl) fun K9 hB hF => ?_
  refine kw_aload_n hB T_when_0 rfl ?_
  refine kw_iconst hB T_when_1 (v := nI 5) (by decide) ?_
  refine kw_iload_n hB T_when_2 rfl ?_
  refine kw_iload_n hB T_when_3 rfl ?_
  refine kw_iload_n hB T_when_4 rfl ?_
  refine kw_callV hB T_when_5 s_T_50 im_T_addOpening se_T_addOpening h.1 rfl rfl (As := [.int (nI 5), .int x, .int y, .int z]) (c_T_addOpening l D g h (Or.inl rfl)) rfl (by decide) (Nat.le_of_ble_eq_true rfl) (by omega) (by omega) (fun r X1 hq hl => ?_)
  obtain ⟨hl1, y, rfl⟩ := hq.len h.2.1.1
  refine kw_iret hF rfl T_when_8 hq (by omega)
set_option maxHeartbeats 4000000 in
set_option maxRecDepth 100000 in
theorem c_T_loop {x y z : Int32} (h : jCl X n s K V A B M L σ md ip wd pl hn ed) : AMet l D g 4 0 0 m_T_loop [.ref 1, .int x, .int y, .int z] X (jAdd X n s K V A B M L σ ip wd pl hn ed (jin 5 x && jin 3 y && (jin 5 z && decide (jv z ≠ 0)) && decide ((σ n).length < 3)) 7 (jv x) (jv y) (jv z)) := by
  refine ja_metK (by decide) rfl (Nat.le_of_ble_eq_true rfl) fun K9 hB hF => ?_
  refine kw_aload_n hB T_loop_0 rfl ?_
  refine kw_bipush hB T_loop_1 (v := nI 7) (by decide) ?_
  refine kw_iload_n hB T_loop_3 rfl ?_
  refine kw_iload_n hB T_loop_4 rfl ?_
  refine kw_iload_n hB T_loop_5 rfl ?_
  refine kw_callV hB T_loop_6 s_T_50 im_T_addOpening se_T_addOpening h.1 rfl rfl (As := [.int (nI 7), .int x, .int y, .int z]) (c_T_addOpening l D g h (Or.inr rfl)) rfl (by decide) (Nat.le_of_ble_eq_true rfl) (by omega) (by omega) (fun r X1 hq hl => ?_)
  obtain ⟨hl1, y, rfl⟩ := hq.len h.2.1.1
  refine kw_iret hF rfl T_loop_9 hq (by omega)
/-- what the innermost open block is: 0 none, 1 a WHEN before its OTHER, 2 a WHEN behind it, 3 a LOOP -/
def jTop (K : Nat → Nat) (st : List (Nat × Nat)) : Nat := match st with
  | [] => 0
  | x :: _ => if K x.1 = 7 then 3 else if x.2 = x.1 then 1 else 2
theorem jTop_k {x : Nat × Nat} {t : List (Nat × Nat)} (hS : jSs n K M L σ) (e : σ n = x :: t) : (jTop K (σ n) = 1 ↔ K x.2 = 5) ∧ (jTop K (σ n) = 3 ↔ K x.2 = 7) ∧ (jTop K (σ n) = 1 → x.2 = x.1 ∧ K x.1 = 5) ∧ (jTop K (σ n) = 3 → K x.1 = 7) ∧ (jTop K (σ n) ≠ 3 → K x.1 = 5) ∧ jTop K (σ n) ≠ 0 := by
  obtain ⟨b1, b2, b3, b4, b5, b6, b7, b8, b9, b10⟩ := hS.top n (Nat.le_refl _) x.1 x.2 t e
  rw [e]
  unfold jTop
  show ((if K x.1 = 7 then 3 else if x.2 = x.1 then 1 else 2) = 1 ↔ _) ∧ ((if K x.1 = 7 then 3 else if x.2 = x.1 then 1 else 2) = 3 ↔ _) ∧ ((if K x.1 = 7 then 3 else if x.2 = x.1 then 1 else 2) = 1 → _) ∧ ((if K x.1 = 7 then 3 else if x.2 = x.1 then 1 else 2) = 3 → _) ∧ ((if K x.1 = 7 then 3 else if x.2 = x.1 then 1 else 2) ≠ 3 → _) ∧ (if K x.1 = 7 then 3 else if x.2 = x.1 then 1 else 2) ≠ 0
  by_cases h7 : K x.1 = 7
  · have hp : x.2 = x.1 := by rcases b10 with z | ⟨z, -⟩; exact z; omega
    rw [if_pos h7, hp]
    omega
  · rw [if_neg h7]
    by_cases hp : x.2 = x.1
    · rw [if_pos hp, hp]; omega
    · rw [if_neg hp]
      have : K x.2 = 6 := by rcases b10 with z | ⟨-, z, -⟩; exact absurd z hp; exact z
      omega
set_option maxHeartbeats 4000000 in
set_option maxRecDepth 100000 in
theorem c_T_other (h : jCl X n s K V A B M L σ md ip wd pl hn ed) : AMet l D g 3 0 0 m_T_other [.ref 1] X (jAdd X n s K V A B M L σ ip wd pl hn ed (decide (jTop K (σ n) = 1)) 6 0 0 0) := by
  obtain ⟨kd, vr, fs, sc, mt, lv, pt, hd, r, rl, rs⟩ := h.2.2.1
  have hS := h.2.1.2.2.1
  have hl3 := hS.len (Nat.le_refl n)
  have hn24 := h.2.1.1
  refine ja_metK (by decide) rfl (Nat.le_of_ble_eq_true rfl) fun K9 hB hF => ?_
  have no : jTop K (σ n) ≠ 1 → K9 11 [.ref 1] [] X 0 0 := by
    intro hno
    refine kw_iconst hB T_other_11 (v := -1) (by decide) ?_
    refine kw_iret hF rfl T_other_12 ?_ (by first | (simp [jLs_len]; done) | (simp [*]; done))
    exact jAdd_no (decide_eq_false hno)
  refine kw_aload_n hB T_other_0 rfl ?_
  refine kw_getf hB T_other_1 f_T_10 h.1 rfl ?_
  cases hσ : σ n with
  | nil =>
    refine kw_callV hB T_other_4 s_T_53 im_R_innermost se_R_innermost r.1 rfl rfl (As := []) (c_R_innermost l D g (w := 0) r hl3 (fun z => absurd z (by rw [hσ]; decide))) rfl (by decide) (Nat.le_of_ble_eq_true rfl) (by omega) (by omega) (fun r X1 hq hl => ?_)
    obtain ⟨rfl, hxeq⟩ := hq
    obtain rfl := hxeq.symm
    rw [if_pos (show (σ n).length = 0 by rw [hσ]; rfl)]
    refine kw_iconst hB T_other_7 (v := nI 5) (by decide) ?_
    refine kw_icmp_eq hB T_other_8 (fun z => absurd z (by decide)) (fun _ => no (by rw [hσ]; show (0 : Nat) ≠ 1; decide))
  | cons x t =>
    obtain ⟨t1, t2, t3, t4, t5, t6⟩ := jTop_k hS hσ
    have hx := hS.top n (Nat.le_refl _) x.1 x.2 t hσ
    have hol : (σ n).length = t.length + 1 := by rw [hσ]; rfl
    refine kw_callV hB T_other_4 s_T_53 im_R_innermost se_R_innermost r.1 rfl rfl (As := []) (c_R_innermost l D g (w := x.2) r hl3 (fun z => ⟨by rw [show (σ n).length - 1 = t.length by omega]; exact (rs [] x t hσ).1, by have := hx.2.1; omega⟩)) rfl (by decide) (Nat.le_of_ble_eq_true rfl) (by omega) (by omega) (fun r X1 hq hl => ?_)
    obtain ⟨rfl, hxeq⟩ := hq
    obtain rfl := hxeq.symm
    rw [if_neg (by omega), (rl x.2 hx.2.1).1]
    refine kw_iconst hB T_other_7 (v := nI 5) (by decide) ?_
    have hkb := (h.2.1.2.2.2.2.2 x.2 hx.2.1).1
    refine kn_icmp_eq hB T_other_8 (by omega) (by decide) (fun h5 => ?_) (fun h5 => no (fun z => h5 (t1.mp z)))
    have ht := t1.mpr h5
    obtain ⟨e1, e2⟩ := t3 ht
    refine kw_aload_n hB T_other_13 rfl ?_
    refine kw_bipush hB T_other_14 (v := nI 6) (by decide) ?_
    refine kw_iconst hB T_other_16 (v := nI 0) (by decide) ?_
    refine kw_iconst hB T_other_17 (v := nI 0) (by decide) ?_
    refine kw_iconst hB T_other_18 (v := nI 0) (by decide) ?_
    refine kw_callV hB T_other_19 s_T_39 im_T_addLine se_T_addLine h.1 rfl rfl (As := [.int (nI 6), .int (nI 0), .int (nI 0), .int (nI 0)]) (c_T_addLine l D g (k := 6) (v := 0) (a := 0) (b := 0) h ⟨by decide, by decide, fun z => by omega, fun z => by omega, fun z => by omega, fun z => by omega, fun z => by omega, fun z => by omega⟩ (fun z => by omega) ⟨fun z => by omega, fun _ => ⟨x.1, t, hσ.trans (congrArg (· :: t) (Prod.ext_iff.mpr ⟨rfl, e1⟩)), e2⟩, fun z => by omega, fun z => by omega⟩) rfl (by decide) (Nat.le_of_ble_eq_true rfl) (by omega) (by omega) (fun r X1 hq hl => ?_)
    obtain ⟨hl1, y, rfl⟩ := hq.len h.2.1.1
    refine kw_iret hF rfl T_other_22 (hq.ok (decide_eq_true ht)) (by omega)
set_option maxHeartbeats 4000000 in
set_option maxRecDepth 100000 in
theorem c_T_end (h : jCl X n s K V A B M L σ md ip wd pl hn ed) : AMet l D g 3 0 0 m_T_end [.ref 1] X (jAdd X n s K V A B M L σ ip wd pl hn ed (decide (jTop K (σ n) ≠ 0)) (if jTop K (σ n) = 3 then 9 else 8) 0 0 0) := by
  obtain ⟨kd, vr, fs, sc, mt, lv, pt, hd, r, rl, rs⟩ := h.2.2.1
  have hS := h.2.1.2.2.1
  have hl3 := hS.len (Nat.le_refl n)
  have hn24 := h.2.1.1
  refine ja_metK (by decide) rfl (Nat.le_of_ble_eq_true rfl) fun K9 hB hF => ?_
  refine kw_aload_n hB T_end_0 rfl ?_
  refine kw_getf hB T_end_1 f_T_10 h.1 rfl ?_
  refine kw_getf hB T_end_4 f_T_57 r.1 rfl ?_
  refine kn_if_ne hB T_end_7 (by omega) (fun ho => ?_) (fun ho => ?_)
  · cases hσ : σ n with
    | nil => rw [hσ] at ho; exact absurd rfl ho
    | cons x t =>
      obtain ⟨t1, t2, t3, t4, t5, t6⟩ := jTop_k hS hσ
      have hx := hS.top n (Nat.le_refl _) x.1 x.2 t hσ
      have hol : (σ n).length = t.length + 1 := by rw [hσ]; rfl
      have hkb := (h.2.1.2.2.2.2.2 x.2 hx.2.1).1
      refine kw_aload_n hB T_end_12 rfl ?_
      refine kw_aload_n hB T_end_13 rfl ?_
      refine kw_getf hB T_end_14 f_T_10 h.1 rfl ?_
      refine kw_callV hB T_end_17 s_T_53 im_R_innermost se_R_innermost r.1 rfl rfl (As := []) (c_R_innermost l D g (w := x.2) r hl3 (fun z => ⟨by rw [show (σ n).length - 1 = t.length by omega]; exact (rs [] x t hσ).1, by have := hx.2.1; omega⟩)) rfl (by decide) (Nat.le_of_ble_eq_true rfl) (by omega) (by omega) (fun r X1 hq hl => ?_)
      obtain ⟨rfl, hxeq⟩ := hq
      obtain rfl := hxeq.symm
      rw [if_neg (by omega), (rl x.2 hx.2.1).1]
      refine kw_bipush hB T_end_20 (v := nI 7) (by decide) ?_
      refine kn_icmp_ne hB T_end_22 (by omega) (by decide) (fun h7 => ?_) (fun h7 => ?_)
      · have ht : jTop K (σ n) ≠ 3 := fun z => h7 (t2.mp z)
        rw [if_neg ht] at hF
        refine kw_bipush hB T_end_30 (v := nI 8) (by decide) ?_
        refine kw_iconst hB T_end_32 (v := nI 0) (by decide) ?_
        refine kw_iconst hB T_end_33 (v := nI 0) (by decide) ?_
        refine kw_iconst hB T_end_34 (v := nI 0) (by decide) ?_
        refine kw_callV hB T_end_35 s_T_39 im_T_addLine se_T_addLine h.1 rfl rfl (As := [.int (nI 8), .int (nI 0), .int (nI 0), .int (nI 0)]) (c_T_addLine l D g (k := 8) (v := 0) (a := 0) (b := 0) h ⟨by decide, by decide, fun z => by omega, fun z => by omega, fun z => by omega, fun z => by omega, fun z => by omega, fun z => by omega⟩ (fun z => by omega) ⟨fun z => by omega, fun z => by omega, fun _ => ⟨x.1, x.2, t, hσ, t5 ht⟩, fun z => by omega⟩) rfl (by decide) (Nat.le_of_ble_eq_true rfl) (by omega) (by omega) (fun r X1 hq hl => ?_)
        obtain ⟨hl1, y, rfl⟩ := hq.len h.2.1.1
        refine kw_iret hF rfl T_end_38 (hq.ok (decide_eq_true t6)) (by omega)
      · have ht : jTop K (σ n) = 3 := t2.mpr h7
        rw [if_pos ht] at hF
        refine kw_bipush hB T_end_25 (v := nI 9) (by decide) ?_
        refine kw_goto hB T_end_27 ?_
        refine kw_iconst hB T_end_32 (v := nI 0) (by decide) ?_
        refine kw_iconst hB T_end_33 (v := nI 0) (by decide) ?_
        refine kw_iconst hB T_end_34 (v := nI 0) (by decide) ?_
        refine kw_callV hB T_end_35 s_T_39 im_T_addLine se_T_addLine h.1 rfl rfl (As := [.int (nI 9), .int (nI 0), .int (nI 0), .int (nI 0)]) (c_T_addLine l D g (k := 9) (v := 0) (a := 0) (b := 0) h ⟨by decide, by decide, fun z => by omega, fun z => by omega, fun z => by omega, fun z => by omega, fun z => by omega, fun z => by omega⟩ (fun z => by omega) ⟨fun z => by omega, fun z => by omega, fun z => by omega, fun _ => ⟨x.1, x.2, t, hσ, t4 ht⟩⟩) rfl (by decide) (Nat.le_of_ble_eq_true rfl) (by omega) (by omega) (fun r X1 hq hl => ?_)
        obtain ⟨hl1, y, rfl⟩ := hq.len h.2.1.1
        refine kw_iret hF rfl T_end_38 (hq.ok (decide_eq_true t6)) (by omega)
  · have hσ : σ n = [] := List.eq_nil_of_length_eq_zero ho
    refine kw_iconst hB T_end_10 (v := -1) (by decide) ?_
    refine kw_iret hF rfl T_end_11 ?_ (by first | (simp [jLs_len]; done) | (simp [*]; done))
    exact jAdd_no (by rw [hσ]; rfl)
set_option maxHeartbeats 4000000 in
set_option maxRecDepth 100000 in
theorem c_T_clear (h : jCl X n s K V A B M L σ md ip wd pl hn ed) : AMet l D g 2 0 0 m_T_clear [.ref 1] X (fun r X' => r = some (.int (nI n)) ∧ jCl X' 0 0 K V A B M L (fun _ => []) false ip wd pl hn ed ∧ jfr jCS X X') := by
  obtain ⟨a1, a2, ⟨kd, vr, fs, sc, mt, lv, pt, hd, r, rl, rs⟩, ⟨un, rd, a4, a4'⟩, ⟨sk, a5, a5'⟩, a6, ⟨c, wt, a7, a7'⟩, ⟨val, a8⟩, a9⟩ := h
  refine ja_metK (by decide) rfl (Nat.le_of_ble_eq_true rfl) fun K9 hB hF => ?_
  refine kw_aload_n hB T_clear_0 rfl ?_
  refine kw_getf hB T_clear_1 f_T_10 a1 rfl ?_
  refine kw_getf hB T_clear_4 f_T_60 r.1 rfl ?_
  refine kw_istore_n hB T_clear_7 rfl (by decide) rfl ?_
  refine kw_aload_n hB T_clear_8 rfl ?_
  refine kw_getf hB T_clear_9 f_T_10 a1 rfl ?_
  refine kw_callV hB T_clear_12 s_T_63 im_R_empty se_R_empty r.1 rfl rfl (As := []) (c_R_empty l D g r) rfl (by decide) (Nat.le_of_ble_eq_true rfl) (by omega) (by omega) (fun r X1 hq hl => ?_)
  obtain ⟨rfl, g1, g2⟩ := hq
  have m2 : ∀ j ∈ jRrS 2, 2 ≤ j ∧ j ≤ 10 := fun j hj => by simp only [List.mem_cons, List.not_mem_nil, or_false] at hj; omega
  have n2 : ∀ j, j < 2 ∨ 10 < j → j ∉ jRrS 2 := fun j hj z => by have := m2 j z; omega
  have b1 := g2.at (n2 1 (by decide)) a1
  have b4 := a4.fr g2 (fun j hj => by have := m2 j hj; omega)
  refine kw_aload_n hB T_clear_15 rfl ?_
  refine kw_getf hB T_clear_16 f_T_19 b1 rfl ?_
  refine kw_callV hB T_clear_19 s_T_66 im_A_forget se_A_forget b4.1 rfl rfl (As := []) (c_A_forget l D g b4) rfl (by decide) (Nat.le_of_ble_eq_true rfl) (by omega) (by omega) (fun r X1 hq hl => ?_)
  obtain ⟨rfl, f1, f2⟩ := hq
  have m11 : ∀ j ∈ [11], j = 11 := fun j hj => List.mem_singleton.mp hj
  have n11 : ∀ j, j ≠ 11 → j ∉ [11] := fun j hj z => hj (List.mem_singleton.mp z)
  have hle := f2.1
  have hle2 := g2.1
  refine kw_iload_n hB T_clear_22 rfl ?_
  refine kw_iret hF rfl T_clear_23 ?_ (by omega)
  refine ⟨rfl, ⟨f2.at (n11 _ (by decide)) b1, jPP_0 rfl, ⟨kd, vr, fs, sc, mt, lv, pt, hd, g1.fr f2 (fun j hj => by have := m11 j hj; omega), fun i hi => absurd hi (by omega), fun a x t e => (by cases a <;> cases e)⟩, ⟨un, rd, f1, fun z => (by cases z)⟩, ⟨sk, (a5.fr g2 (fun j hj => by have := m2 j hj; omega)).fr f2 (fun j hj => by have := m11 j hj; omega), fun z => (by cases z)⟩, (a6.fr g2 (n2 _ (by decide)) (n2 _ (by decide))).fr f2 (n11 _ (by decide)) (n11 _ (by decide)), ⟨c, wt, (a7.fr g2 (fun j hj => by have := m2 j hj; omega)).fr f2 (fun j hj => by have := m11 j hj; omega), fun z => (by cases z)⟩, ⟨val, (a8.fr g2 (fun j hj => by have := m2 j hj; omega)).fr f2 (fun j hj => by have := m11 j hj; omega)⟩, a9⟩, (g2.mono (fun j hj => by have := m2 j hj; rw [jCS_mem]; omega)).tr (f2.mono (fun j hj => by have := m11 j hj; rw [jCS_mem]; omega))⟩
end JT2
