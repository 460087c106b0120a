-- the model: when, loop, other, end, clear
theorem jin_pred (z : Int32) : jin 4 (z - nI 1) = (jin 5 z && decide (jv z ≠ 0)) := by
  by_cases hz : z < 0
  · rw [jin_neg hz]
    cases h : jin 4 (z - nI 1) with
    | false => rfl
    | true =>
      obtain ⟨e1, e2⟩ := jin_v h (by decide)
      have : z = nI (jv (z - nI 1) + 1) := by
        have h1 : z = (z - nI 1) + nI 1 := (Int32.sub_add_cancel z (nI 1)).symm
        exact h1.trans ((congrArg (· + nI 1) e1).trans (nI_add _ 1))
      rw [this] at hz
      exact absurd hz (nI_pos (by omega))
  · obtain ⟨k, hk, rfl⟩ := nI_of hz
    rw [jin_nI hk, jv_nI hk]
    cases k with
    | zero => decide
    | succ k =>
      rw [pk_sub (by omega), jin_nI (by omega)]
      by_cases h : k < 4
      · rw [decide_eq_true (show k + 1 - 1 < 4 by omega), decide_eq_true (show k + 1 < 5 by omega), decide_eq_true (by omega)]; rfl
      · rw [decide_eq_false (show ¬ k + 1 - 1 < 4 by omega), decide_eq_false (show ¬ k + 1 < 5 by omega)]; rfl
def jPS : List Nat := [145, 146, 147, 148, 149, 150, 151, 152, 153, 154]
theorem jPS_md : ∀ k ∈ jPS, 145 ≤ k ∧ k < 155 := by decide
section JML4
variable (l : Launch) (D : va_G) (g : Nat × Nat) {X Y : ja_H} {n s : Nat} {K V A B M L : Nat → Nat} {σ : Nat → List (Nat × Nat)} {md : Bool} {ip wd pl : Nat → Nat} {hn : Nat} {ed : Int32}
set_option maxHeartbeats 8000000 in
set_option maxRecDepth 100000 in
theorem c_M_begin {k : Nat} {x y z : Int32} (hk : k = 5 ∨ k = 7) (h : jMdl X n s K V A B M L σ md ip wd pl hn ed) (hP : jPP n s K V A B M L σ) : AMet l D g 1 0 0 m_M_begin [.ref 145, .int (nI k), .int x, .int y, .int z] X (jAdM X n s K V A B M L σ ip wd pl hn ed (jin 5 x && jin 3 y && (jin 5 z && decide (jv z ≠ 0)) && decide ((σ n).length < 3)) k (jv x) (jv y) (jv z)) := by
  have hn24 := hP.1
  have hl3 := hP.2.2.1.len (Nat.le_refl n)
  obtain ⟨sc, f, mf, rn, fa, he, ⟨q0, q10, q11, q15, q38, q39⟩, ⟨wh, on, tw, th, dp, bg, ol, el, bk, hp, hrow, ho, hb⟩, h158, h159, h166, hi, -⟩ := h
  refine ja_metK (by decide) rfl (Nat.le_of_ble_eq_true rfl) fun K9 hB hF => ?_
  have no : (jin 5 x && jin 3 y && (jin 5 z && decide (jv z ≠ 0)) && decide ((σ n).length < 3)) = false ∨ n = 24 → K9 44 [.ref 145, .int (nI k), .int x, .int y, .int z] [] X 0 0 := by
    intro hno
    refine kw_iconst hB M_begin_44 (v := -1) (by decide) ?_
    refine kw_iret hF rfl M_begin_45 ?_ (by first | (simp [jLs_len]; done) | (simp [*]; done))
    exact jAdM_no hno
  refine kw_aload_n hB M_begin_0 rfl ?_
  refine kw_getf hB M_begin_1 f_M_91 he.c rfl ?_
  rw [q0]
  refine kw_bipush hB M_begin_4 (v := nI 24) (by decide) ?_
  refine kn_icmp_eq hB M_begin_6 (by omega) (by decide) (fun z => no (Or.inr z)) (fun hn' => ?_)
  refine kw_iload_n hB M_begin_9 rfl ?_
  refine kw_iconst hB M_begin_10 (v := nI 5) (by decide) ?_
  refine kw_callS hB M_begin_11 s_M_101 st_M_below (As := [.int x, .int (nI 5)]) (c_M_below l D g (m := 5) (by decide)) rfl (by decide) (Nat.le_of_ble_eq_true rfl) (by omega) (by omega) (fun r X1 hq hl => ?_)
  obtain ⟨rfl, hxeq⟩ := hq
  obtain rfl := hxeq.symm
  refine kn_if_eq hB M_begin_14 (by cases jin 5 x <;> decide) (fun hz => no (Or.inl (by rw [jb_f hz]; rfl))) (fun hz => ?_)
  have h1 : jin 5 x = true := jb_t hz
  refine kw_iload_n hB M_begin_17 rfl ?_
  refine kw_iconst hB M_begin_18 (v := nI 3) (by decide) ?_
  refine kw_callS hB M_begin_19 s_M_101 st_M_below (As := [.int y, .int (nI 3)]) (c_M_below l D g (m := 3) (by decide)) rfl (by decide) (Nat.le_of_ble_eq_true rfl) (by omega) (by omega) (fun r X1 hq hl => ?_)
  obtain ⟨rfl, hxeq⟩ := hq
  obtain rfl := hxeq.symm
  refine kn_if_eq hB M_begin_22 (by cases jin 3 y <;> decide) (fun hz2 => no (Or.inl (by rw [jb_f hz2, Bool.and_false]; rfl))) (fun hz2 => ?_)
  have h2 : jin 3 y = true := jb_t hz2
  refine kw_iload hB M_begin_25 rfl ?_
  refine kw_iconst hB M_begin_27 (v := nI 1) (by decide) ?_
  refine kw_isub hB M_begin_28 ?_
  refine kw_iconst hB M_begin_29 (v := nI 4) (by decide) ?_
  refine kw_callS hB M_begin_30 s_M_101 st_M_below (As := [.int (z - nI 1), .int (nI 4)]) (c_M_below l D g (m := 4) (by decide)) rfl (by decide) (Nat.le_of_ble_eq_true rfl) (by omega) (by omega) (fun r X1 hq hl => ?_)
  obtain ⟨rfl, hxeq⟩ := hq
  obtain rfl := hxeq.symm
  rw [jin_pred z]
  refine kn_if_eq hB M_begin_33 (by cases (jin 5 z && decide (jv z ≠ 0)) <;> decide) (fun hz3 => no (Or.inl (by rw [jb_f hz3, Bool.and_false]; rfl))) (fun hz3 => ?_)
  have h3 : (jin 5 z && decide (jv z ≠ 0)) = true := jb_t hz3
  obtain ⟨e1, e2⟩ := jin_v h1 (by decide)
  obtain ⟨e3, e4⟩ := jin_v h2 (by decide)
  obtain ⟨e5, e6⟩ := jin_v (Bool.and_eq_true_iff.mp h3).1 (by decide)
  refine kw_aload_n hB M_begin_36 rfl ?_
  refine kw_getf hB M_begin_37 f_M_94 he.c rfl ?_
  rw [q10]
  refine kw_iconst hB M_begin_40 (v := nI 3) (by decide) ?_
  refine kn_icmp_ne hB M_begin_41 (by omega) (by decide) (fun z4 => ?_) (fun z4 => no (Or.inl (by rw [decide_eq_false (show ¬ (σ n).length < 3 by omega), Bool.and_false])))
  refine kw_aload_n hB M_begin_46 rfl ?_
  refine kw_getf hB M_begin_47 f_M_34 he.c rfl ?_
  refine kw_aload_n hB M_begin_50 rfl ?_
  refine kw_getf hB M_begin_51 f_M_94 he.c rfl ?_
  rw [q10]
  refine kw_aload_n hB M_begin_54 rfl ?_
  refine kw_getf hB M_begin_55 f_M_91 he.c rfl ?_
  rw [q0]
  refine kn_iast hB M_begin_58 hp.2.2.2.2.2.2.2.2 rfl (by omega) (by decide) ?_
  have p2 := (hp.pl he.c).s_bk (f' := upd bk (σ n).length (nI n))
  have f2 := jset_fr X 154 (.inl (0, 3, .inl (upd bk (σ n).length (nI n))))
  generalize X.set 154 (.inl (0, 3, .inl (upd bk (σ n).length (nI n)))) = Y1 at p2 f2
  have hl2 := f2.1
  refine kw_aload_n hB M_begin_59 rfl ?_
  refine kw_iload_n hB M_begin_60 rfl ?_
  refine kw_iload_n hB M_begin_61 rfl ?_
  refine kw_iload_n hB M_begin_62 rfl ?_
  refine kw_iload hB M_begin_63 rfl ?_
  refine kw_callV hB M_begin_65 s_M_109 im_M_add se_M_add p2.1 rfl rfl (As := [.int (nI k), .int x, .int y, .int z]) (c_M_add l D g (n := n) p2 q0 (by omega)) rfl (by decide) (Nat.le_of_ble_eq_true rfl) (by omega) (by omega) (fun r X1 hq hl => ?_)
  obtain ⟨rfl, p3, f3⟩ := hq
  have f23 : jfr jPS X _ := (f2.mono (T := jPS) (by decide)).tr (f3.mono (T := jPS) (by decide))
  refine kw_pop hB M_begin_68 rfl ?_
  refine kw_aload_n hB M_begin_69 rfl ?_
  refine kw_dup hB M_begin_70 rfl ?_
  refine kw_getf hB M_begin_71 f_M_94 p3.1 rfl ?_
  rw [jsc_up (by decide) (by decide), q10]
  refine kw_iconst hB M_begin_74 (v := nI 1) (by decide) ?_
  refine kn_iadd hB M_begin_75 ?_
  refine km_put hB M_begin_76 p3.1 f_M_94 jw_M_10 (by decide) rfl rfl rfl ?_
  have p4 := p3.s_s (f' := upd (upd (upd sc 0 (nI (n + 1))) 15 (nI 0)) 10 (nI ((σ n).length + 1)))
  have f4 := f23.tr ((jset_fr X1 145 (jMo (upd (upd (upd sc 0 (nI (n + 1))) 15 (nI 0)) 10 (nI ((σ n).length + 1))))).mono (T := jPS) (by decide))
  generalize X1.set 145 (jMo (upd (upd (upd sc 0 (nI (n + 1))) 15 (nI 0)) 10 (nI ((σ n).length + 1)))) = Y4 at p4 f4
  refine kw_aload_n hB M_begin_79 rfl ?_
  refine kw_getf hB M_begin_80 f_M_91 p4.1 rfl ?_
  rw [pk_un (show (0 : Nat) ≠ 10 by decide), pk_un (show (0 : Nat) ≠ 15 by decide), pk_us]
  have p5 := p4.2
  rw [q10] at p5
  refine kw_iret hF rfl M_begin_83 (jAdM_go (k := k) (v := jv x) (a := jv y) (b := jv z) he h158 h159 h166 hi hP (by omega) (by rw [h1, h2, h3, decide_eq_true (by omega)]; rfl) ⟨fun _ => by omega, fun w => by omega, fun w => by omega, fun w => by omega⟩ (by omega) hrow ho hb ?_ p4.1 (by rw [pk_un (by decide), pk_un (by decide), pk_us]) ?_ ?_ ?_ ?_ ?_ f4 jPS_md) f4.1
  · rw [← e1, ← e3, ← e5]
    have n9 : ¬ k = 9 := by omega
    have n8 : ¬ 8 ≤ k := by omega
    have n6 : ¬ k = 6 := by omega
    simp only [n9, n8, n6, or_self, if_false, if_pos hk]
    exact p5
  · rw [pk_us, if_neg (by omega), if_pos hk]
  · rw [pk_un (by decide), jsc_up (by decide) (by decide), q11, if_neg (by omega)]
  · rw [pk_un (by decide), pk_us]
  · rw [pk_un (by decide), jsc_up (by decide) (by decide), q38]
  · rw [pk_un (by decide), jsc_up (by decide) (by decide), q39]
set_option maxHeartbeats 4000000 in
set_option maxRecDepth 100000 in
theorem c_M_when {x y z : Int32} (h : jMdl X n s K V A B M L σ md ip wd pl hn ed) (hP : jPP n s K V A B M L σ) : AMet l D g 2 0 0 m_M_when [.ref 145, .int x, .int y, .int z] X (jAdM X n s K V A B M L σ ip wd pl hn ed (jin 5 x && jin 3 y && (jin 5 z && decide (jv z ≠ 0)) && decide ((σ n).length < 3)) 5 (jv x) (jv y) (jv z)) := by
  have h0 := h
  obtain ⟨sc, f, mf, rn, fa, he, -⟩ := h
  refine ja_metK (by decide) rfl (Nat.le_of_ble_eq_true rfl) fun K9 hB hF => ?_
  refine kw_aload_n hB M_when_0 rfl ?_
  refine kw_iconst hB M_when_1 (v := nI 5) (by decide) ?_
  refine kw_iload_n hB M_when_2 rfl ?_
  refine kw_iload_n hB M_when_3 rfl ?_
  refine kw_iload_n hB M_when_4 rfl ?_
  refine kw_callV hB M_when_5 s_M_116 im_M_begin se_M_begin he.c rfl rfl (As := [.int (nI 5), .int x, .int y, .int z]) (c_M_begin l D g (Or.inl rfl) h0 hP) rfl (by decide) (Nat.le_of_ble_eq_true rfl) (by omega) (by omega) (fun r X1 hq hl => ?_)
  obtain ⟨hl1, y, rfl⟩ := hq.len hP.1
  refine kw_iret hF rfl M_when_8 hq (by omega)
set_option maxHeartbeats 4000000 in
set_option maxRecDepth 100000 in
theorem c_M_loop {x y z : Int32} (h : jMdl X n s K V A B M L σ md ip wd pl hn ed) (hP : jPP n s K V A B M L σ) : AMet l D g 2 0 0 m_M_loop [.ref 145, .int x, .int y, .int z] X (jAdM X n s K V A B M L σ ip wd pl hn ed (jin 5 x && jin 3 y && (jin 5 z && decide (jv z ≠ 0)) && decide ((σ n).length < 3)) 7 (jv x) (jv y) (jv z)) := by
  have h0 := h
  obtain ⟨sc, f, mf, rn, fa, he, -⟩ := h
  refine ja_metK (by decide) rfl (Nat.le_of_ble_eq_true rfl) fun K9 hB hF => ?_
  refine kw_aload_n hB M_loop_0 rfl ?_
  refine kw_bipush hB M_loop_1 (v := nI 7) (by decide) ?_
  refine kw_iload_n hB M_loop_3 rfl ?_
  refine kw_iload_n hB M_loop_4 rfl ?_
  refine kw_iload_n hB M_loop_5 rfl ?_
  refine kw_callV hB M_loop_6 s_M_116 im_M_begin se_M_begin he.c rfl rfl (As := [.int (nI 7), .int x, .int y, .int z]) (c_M_begin l D g (Or.inr rfl) h0 hP) rfl (by decide) (Nat.le_of_ble_eq_true rfl) (by omega) (by omega) (fun r X1 hq hl => ?_)
  obtain ⟨hl1, y, rfl⟩ := hq.len hP.1
  refine kw_iret hF rfl M_loop_9 hq (by omega)
set_option maxHeartbeats 8000000 in
set_option maxRecDepth 100000 in
theorem c_M_other (h : jMdl X n s K V A B M L σ md ip wd pl hn ed) (hP : jPP n s K V A B M L σ) : AMet l D g 1 0 0 m_M_other [.ref 145] X (jAdM X n s K V A B M L σ ip wd pl hn ed (decide (jTop K (σ n) = 1)) 6 0 0 0) := by
  have hn24 := hP.1
  have hS := hP.2.2.1
  have hl3 := hS.len (Nat.le_refl n)
  obtain ⟨sc, f, mf, rn, fa, he, ⟨q0, q10, q11, q15, q38, q39⟩, ⟨wh, on, tw, th, dp, bg, ol, el, bk, hp, hrow, ho, hb⟩, h158, h159, h166, hi, -⟩ := h
  refine ja_metK (by decide) rfl (Nat.le_of_ble_eq_true rfl) fun K9 hB hF => ?_
  have no : ∀ u, jTop K (σ n) ≠ 1 ∨ n = 24 → K9 55 [.ref 145, u] [] X 0 0 := by
    intro u hno
    refine kw_iconst hB M_other_55 (v := -1) (by decide) ?_
    refine kw_iret hF rfl M_other_56 ?_ (by first | (simp [jLs_len]; done) | (simp [*]; done))
    exact jAdM_no (hno.imp (fun z => decide_eq_false z) id)
  refine kw_aload_n hB M_other_0 rfl ?_
  refine kw_getf hB M_other_1 f_M_94 he.c rfl ?_
  rw [q10]
  cases hσ : σ n with
  | nil =>
    have ht : jTop K (σ n) ≠ 1 := by rw [hσ]; show (0 : Nat) ≠ 1; decide
    refine kn_if_ne hB M_other_4 (by decide) (fun z => absurd rfl z) (fun _ => ?_)
    refine kw_iconst hB M_other_7 (v := -1) (by decide) ?_
    refine kw_goto hB M_other_8 ?_
    refine kw_istore_n hB M_other_22 rfl (by decide) rfl ?_
    refine kw_aload_n hB M_other_23 rfl ?_
    refine kw_getf hB M_other_24 f_M_91 he.c rfl ?_
    rw [q0]
    refine kw_bipush hB M_other_27 (v := nI 24) (by decide) ?_
    refine kn_icmp_eq hB M_other_29 (by omega) (by decide) (fun z => no _ (Or.inr z)) (fun hn' => ?_)
    refine kw_iload_n hB M_other_32 rfl ?_
    refine kw_if_lt hB M_other_33 (fun _ => no _ (Or.inl ht)) (fun z => absurd (show (-1 : Int32) < 0 by decide) z)
  | cons x t =>
    obtain ⟨t1, t2, t3, t4, t5, t6⟩ := jTop_k hS hσ
    have hx := hS.top n (Nat.le_refl _) x.1 x.2 t hσ
    have hx1 := hx.1
    have hol : (σ n).length = t.length + 1 := by rw [hσ]; rfl
    have ebk := hb [] x t hσ
    have hkx : K x.1 = 5 ∨ K x.1 = 7 := hx.2.2.2.2.1
    refine kn_if_ne hB M_other_4 (by rw [← hσ]; omega) (fun _ => ?_) (fun z => absurd z (by simp))
    refine kw_aload_n hB M_other_11 rfl ?_
    refine kw_getf hB M_other_12 f_M_34 he.c rfl ?_
    refine kw_aload_n hB M_other_15 rfl ?_
    refine kw_getf hB M_other_16 f_M_94 he.c rfl ?_
    rw [q10]
    refine kw_iconst hB M_other_19 (v := nI 1) (by decide) ?_
    refine kn_isub hB M_other_20 (by omega) ?_
    rw [show (σ n).length - 1 = t.length by omega]
    refine kn_iald hB M_other_21 hp.2.2.2.2.2.2.2.2 rfl (by omega) (by decide) ?_
    rw [ebk]
    refine kw_istore_n hB M_other_22 rfl (by decide) rfl ?_
    refine kw_aload_n hB M_other_23 rfl ?_
    refine kw_getf hB M_other_24 f_M_91 he.c rfl ?_
    rw [q0]
    refine kw_bipush hB M_other_27 (v := nI 24) (by decide) ?_
    refine kn_icmp_eq hB M_other_29 (by omega) (by decide) (fun z => no _ (Or.inr z)) (fun hn' => ?_)
    refine kw_iload_n hB M_other_32 rfl ?_
    refine kw_if_lt hB M_other_33 (fun z => absurd z (nI_pos (by omega))) (fun _ => ?_)
    refine kw_aload_n hB M_other_36 rfl ?_
    refine kw_getf hB M_other_37 f_M_7 he.c rfl ?_
    refine kw_iload_n hB M_other_40 rfl ?_
    refine kn_iald hB M_other_41 hp.1 rfl (by omega) (by decide) ?_
    rw [(hrow x.1 hx1).1, if_neg (by omega)]
    refine kw_iconst hB M_other_42 (v := nI 5) (by decide) ?_
    refine kn_icmp_ne hB M_other_43 (by omega) (by decide) (fun z => no _ (Or.inl (fun w => z (t3 w).2))) (fun k5 => ?_)
    have hol5 := ho x (by rw [hσ]; exact List.mem_cons_self ..) k5
    refine kw_aload_n hB M_other_46 rfl ?_
    refine kw_getf hB M_other_47 f_M_28 he.c rfl ?_
    refine kw_iload_n hB M_other_50 rfl ?_
    refine kn_iald hB M_other_51 hp.2.2.2.2.2.2.1 rfl (by omega) (by decide) ?_
    rw [hol5]
    by_cases hpx : x.2 = x.1
    · rw [if_pos hpx]
      refine kw_if_lt hB M_other_52 (fun _ => ?_) (fun z => absurd (show (-1 : Int32) < 0 by decide) z)
      have ht : jTop K (σ n) = 1 := by rw [hσ]; unfold jTop; show (if K x.1 = 7 then 3 else if x.2 = x.1 then 1 else 2) = 1; rw [if_neg (by omega), if_pos hpx]
      refine kw_aload_n hB M_other_57 rfl ?_
      refine kw_getf hB M_other_58 f_M_28 he.c rfl ?_
      refine kw_iload_n hB M_other_61 rfl ?_
      refine kw_aload_n hB M_other_62 rfl ?_
      refine kw_getf hB M_other_63 f_M_91 he.c rfl ?_
      rw [q0]
      refine kn_iast hB M_other_66 hp.2.2.2.2.2.2.1 rfl (by omega) (by decide) ?_
      have p2 := (hp.pl he.c).s_ol (f' := upd ol x.1 (nI n))
      have f2 := jset_fr X 152 (.inl (0, 24, .inl (upd ol x.1 (nI n))))
      generalize X.set 152 (.inl (0, 24, .inl (upd ol x.1 (nI n)))) = Y1 at p2 f2
      refine kw_aload_n hB M_other_67 rfl ?_
      refine kw_getf hB M_other_68 f_M_25 p2.1 rfl ?_
      refine kw_aload_n hB M_other_71 rfl ?_
      refine kw_getf hB M_other_72 f_M_91 p2.1 rfl ?_
      rw [q0]
      refine kw_iload_n hB M_other_75 rfl ?_
      refine kn_iast hB M_other_76 p2.2.2.2.2.2.2.1 rfl (by omega) (by decide) ?_
      have p3 := p2.s_bg (f' := upd bg n (nI x.1))
      have f3 := f2.mono (T := jPS) (by decide) |>.tr ((jset_fr Y1 151 (.inl (0, 24, .inl (upd bg n (nI x.1))))).mono (T := jPS) (by decide))
      generalize Y1.set 151 (.inl (0, 24, .inl (upd bg n (nI x.1)))) = Y2 at p3 f3
      have hl2 := f3.1
      refine kw_aload_n hB M_other_77 rfl ?_
      refine kw_bipush hB M_other_78 (v := nI 6) (by decide) ?_
      refine kw_iconst hB M_other_80 (v := nI 0) (by decide) ?_
      refine kw_iconst hB M_other_81 (v := nI 0) (by decide) ?_
      refine kw_iconst hB M_other_82 (v := nI 0) (by decide) ?_
      refine kw_callV hB M_other_83 s_M_109 im_M_add se_M_add p3.1 rfl rfl (As := [.int (nI 6), .int (nI 0), .int (nI 0), .int (nI 0)]) (c_M_add l D g (n := n) p3 q0 (by omega)) rfl (by decide) (Nat.le_of_ble_eq_true rfl) (by omega) (by omega) (fun r X1 hq hl => ?_)
      obtain ⟨rfl, p4, f4⟩ := hq
      have f34 := f3.tr (f4.mono (T := jPS) (by decide))
      have p5 := p4.2
      rw [q10] at p5
      refine kw_iret hF rfl M_other_86 (jAdM_go (k := 6) (v := 0) (a := 0) (b := 0) he h158 h159 h166 hi hP (by omega) (decide_eq_true ht) ⟨fun w => by omega, fun _ => ⟨x.1, t, hσ.trans (congrArg (· :: t) (Prod.ext_iff.mpr ⟨rfl, hpx⟩)), k5⟩, fun w => by omega, fun w => by omega⟩ (by decide) hrow ho hb ?_ p4.1 (by rw [pk_un (by decide), pk_us]) ?_ ?_ (pk_us ..) ?_ ?_ f34 jPS_md) f34.1
      · have hh : jHd (σ n) = x.1 := by rw [hσ]; rfl
        rw [hh]
        exact p5
      · rw [jsc_up (by decide) (by decide), q10]; rfl
      · rw [jsc_up (by decide) (by decide), q11]; rfl
      · rw [jsc_up (by decide) (by decide), q38]
      · rw [jsc_up (by decide) (by decide), q39]
    · rw [if_neg hpx]
      refine kw_if_lt hB M_other_52 (fun z => absurd z (nI_pos (by have := hx.2.1; omega))) (fun _ => no _ (Or.inl (fun w => hpx (t3 w).1)))
set_option maxHeartbeats 8000000 in
set_option maxRecDepth 100000 in
theorem c_M_end (h : jMdl X n s K V A B M L σ md ip wd pl hn ed) (hP : jPP n s K V A B M L σ) : AMet l D g 1 0 0 m_M_end [.ref 145] X (jAdM X n s K V A B M L σ ip wd pl hn ed (decide (jTop K (σ n) ≠ 0)) (if jTop K (σ n) = 3 then 9 else 8) 0 0 0) := by
  have hn24 := hP.1
  have hS := hP.2.2.1
  have hl3 := hS.len (Nat.le_refl n)
  obtain ⟨sc, f, mf, rn, fa, he, ⟨q0, q10, q11, q15, q38, q39⟩, ⟨wh, on, tw, th, dp, bg, ol, el, bk, hp, hrow, ho, hb⟩, h158, h159, h166, hi, -⟩ := h
  refine ja_metK (by decide) rfl (Nat.le_of_ble_eq_true rfl) fun K9 hB hF => ?_
  have no : jTop K (σ n) = 0 ∨ n = 24 → K9 16 [.ref 145] [] X 0 0 := by
    intro hno
    refine kw_iconst hB M_end_16 (v := -1) (by decide) ?_
    refine kw_iret hF rfl M_end_17 ?_ (by first | (simp [jLs_len]; done) | (simp [*]; done))
    exact jAdM_no (hno.imp (fun z => decide_eq_false (fun w => w z)) id)
  refine kw_aload_n hB M_end_0 rfl ?_
  refine kw_getf hB M_end_1 f_M_91 he.c rfl ?_
  rw [q0]
  refine kw_bipush hB M_end_4 (v := nI 24) (by decide) ?_
  refine kn_icmp_eq hB M_end_6 (by omega) (by decide) (fun z => no (Or.inr z)) (fun hn' => ?_)
  refine kw_aload_n hB M_end_9 rfl ?_
  refine kw_getf hB M_end_10 f_M_94 he.c rfl ?_
  rw [q10]
  cases hσ : σ n with
  | nil =>
    refine kn_if_ne hB M_end_13 (by decide) (fun z => absurd rfl z) (fun _ => no (Or.inl (by rw [hσ]; rfl)))
  | cons x t =>
    obtain ⟨t1, t2, t3, t4, t5, t6⟩ := jTop_k hS hσ
    have hx := hS.top n (Nat.le_refl _) x.1 x.2 t hσ
    have hx1 := hx.1
    have hol : (σ n).length = t.length + 1 := by rw [hσ]; rfl
    have ebk := hb [] x t hσ
    refine kn_if_ne hB M_end_13 (by rw [← hσ]; omega) (fun _ => ?_) (fun z => absurd z (by simp))
    refine kw_aload_n hB M_end_18 rfl ?_
    refine kw_dup hB M_end_19 rfl ?_
    refine kw_getf hB M_end_20 f_M_94 he.c rfl ?_
    rw [q10]
    refine kw_iconst hB M_end_23 (v := nI 1) (by decide) ?_
    refine kn_isub hB M_end_24 (by omega) ?_
    rw [show (σ n).length - 1 = t.length by omega]
    refine km_put hB M_end_25 he.c f_M_94 jw_M_10 (by decide) rfl rfl rfl ?_
    have p1 := (hp.pl he.c).s_s (f' := upd sc 10 (nI t.length))
    have f1 := (jset_fr X 145 (jMo (upd sc 10 (nI t.length)))).mono (T := jPS) (by decide)
    generalize X.set 145 (jMo (upd sc 10 (nI t.length))) = Y1 at p1 f1
    refine kw_aload_n hB M_end_28 rfl ?_
    refine kw_getf hB M_end_29 f_M_31 p1.1 rfl ?_
    refine kw_aload_n hB M_end_32 rfl ?_
    refine kw_getf hB M_end_33 f_M_34 p1.1 rfl ?_
    refine kw_aload_n hB M_end_36 rfl ?_
    refine kw_getf hB M_end_37 f_M_94 p1.1 rfl ?_
    rw [pk_us]
    refine kn_iald hB M_end_40 p1.2.2.2.2.2.2.2.2.2 rfl (by omega) (by decide) ?_
    rw [ebk]
    refine kw_aload_n hB M_end_41 rfl ?_
    refine kw_getf hB M_end_42 f_M_91 p1.1 rfl ?_
    rw [pk_un (show (0 : Nat) ≠ 10 by decide), q0]
    refine kn_iast hB M_end_45 p1.2.2.2.2.2.2.2.2.1 rfl (by omega) (by decide) ?_
    have p2 := p1.s_el (f' := upd el x.1 (nI n))
    have f2 := f1.tr ((jset_fr Y1 153 (.inl (0, 24, .inl (upd el x.1 (nI n))))).mono (T := jPS) (by decide))
    generalize Y1.set 153 (.inl (0, 24, .inl (upd el x.1 (nI n)))) = Y2 at p2 f2
    refine kw_aload_n hB M_end_46 rfl ?_
    refine kw_getf hB M_end_47 f_M_25 p2.1 rfl ?_
    refine kw_aload_n hB M_end_50 rfl ?_
    refine kw_getf hB M_end_51 f_M_91 p2.1 rfl ?_
    rw [pk_un (show (0 : Nat) ≠ 10 by decide), q0]
    refine kw_aload_n hB M_end_54 rfl ?_
    refine kw_getf hB M_end_55 f_M_34 p2.1 rfl ?_
    refine kw_aload_n hB M_end_58 rfl ?_
    refine kw_getf hB M_end_59 f_M_94 p2.1 rfl ?_
    rw [pk_us]
    refine kn_iald hB M_end_62 p2.2.2.2.2.2.2.2.2.2 rfl (by omega) (by decide) ?_
    rw [ebk]
    refine kn_iast hB M_end_63 p2.2.2.2.2.2.2.1 rfl (by omega) (by decide) ?_
    have p3 := p2.s_bg (f' := upd bg n (nI x.1))
    have f3 := f2.tr ((jset_fr Y2 151 (.inl (0, 24, .inl (upd bg n (nI x.1))))).mono (T := jPS) (by decide))
    generalize Y2.set 151 (.inl (0, 24, .inl (upd bg n (nI x.1)))) = Y3 at p3 f3
    have hl2 := f3.1
    refine kw_aload_n hB M_end_64 rfl ?_
    refine kw_bipush hB M_end_65 (v := nI 8) (by decide) ?_
    refine kw_iconst hB M_end_67 (v := nI 0) (by decide) ?_
    refine kw_iconst hB M_end_68 (v := nI 0) (by decide) ?_
    refine kw_iconst hB M_end_69 (v := nI 0) (by decide) ?_
    refine kw_callV hB M_end_70 s_M_109 im_M_add se_M_add p3.1 rfl rfl (As := [.int (nI 8), .int (nI 0), .int (nI 0), .int (nI 0)]) (c_M_add l D g (n := n) p3 (by rw [pk_un (by decide), q0]) (by omega)) rfl (by decide) (Nat.le_of_ble_eq_true rfl) (by omega) (by omega) (fun r X1 hq hl => ?_)
    obtain ⟨rfl, p4, f4⟩ := hq
    have f34 := f3.tr (f4.mono (T := jPS) (by decide))
    have p5 := p4.2
    rw [pk_us] at p5
    have hh : jHd (σ n) = x.1 := by rw [hσ]; rfl
    have hm : jMay K (σ n) (if jTop K (σ n) = 3 then 9 else 8) := by
      by_cases h3 : jTop K (σ n) = 3
      · rw [if_pos h3]
        exact ⟨fun w => by omega, fun w => by omega, fun w => by omega, fun _ => ⟨x.1, x.2, t, hσ, t4 h3⟩⟩
      · rw [if_neg h3]
        exact ⟨fun w => by omega, fun w => by omega, fun _ => ⟨x.1, x.2, t, hσ, t5 h3⟩, fun w => by omega⟩
    have hk : (if jTop K (σ n) = 3 then 9 else 8) = 9 ∨ (if jTop K (σ n) = 3 then 9 else 8) = 8 := by split <;> simp
    generalize (if jTop K (σ n) = 3 then 9 else 8) = k at hm hk hF
    refine kw_iret hF rfl M_end_73 (jAdM_go (k := k) (v := 0) (a := 0) (b := 0) he h158 h159 h166 hi hP (by omega) (decide_eq_true t6) hm (by omega) hrow ho hb ?_ p4.1 (by rw [pk_un (by decide), pk_us]) ?_ ?_ (pk_us ..) ?_ ?_ f34 jPS_md) f34.1
    · rw [hh]
      have e9 : (if k = 9 then 8 else k) = 8 := by split <;> omega
      have y8 : 8 ≤ k := by omega
      have n7 : ¬ k = 7 := by omega
      have n6 : ¬ k = 6 := by omega
      have n5 : ¬ k = 5 := by omega
      rw [e9]
      simp only [n7, n6, n5, or_self, if_false, y8, or_true, if_true]
      rw [show (σ n).length - 1 = t.length by omega]
      exact p5
    · rw [jsc_up (by decide) (by decide), pk_us, if_neg (by omega), if_neg (by omega), show (σ n).length - 1 = t.length by omega]
    · rw [jsc_up (by decide) (by decide), pk_un (by decide), q11, if_neg (by omega)]
    · rw [jsc_up (by decide) (by decide), pk_un (by decide), q38]
    · rw [jsc_up (by decide) (by decide), pk_un (by decide), q39]
set_option maxHeartbeats 8000000 in
set_option maxRecDepth 100000 in
theorem c_M_clear (h : jMdl X n s K V A B M L σ md ip wd pl hn ed) : AMet l D g 0 0 0 m_M_clear [.ref 145] X (fun r X' => r = some (.int (nI n)) ∧ jMdl X' 0 0 K V A B M L (fun _ => []) false ip wd pl hn ed ∧ jfr jMS X X') := by
  obtain ⟨sc, f, mf, rn, fa, he, ⟨q0, q10, q11, q15, q38, q39⟩, ⟨wh, on, tw, th, dp, bg, ol, el, bk, hp, hrow, ho, hb⟩, h158, h159, h166, hi, -⟩ := h
  refine ja_metK (by decide) rfl (Nat.le_of_ble_eq_true rfl) fun K9 hB hF => ?_
  refine kw_aload_n hB M_clear_0 rfl ?_
  refine kw_getf hB M_clear_1 f_M_91 he.c rfl ?_
  rw [q0]
  refine kw_istore_n hB M_clear_4 rfl (by decide) rfl ?_
  refine kw_aload_n hB M_clear_5 rfl ?_
  refine kw_iconst hB M_clear_6 (v := nI 0) (by decide) ?_
  refine km_put hB M_clear_7 he.c f_M_91 jw_M_0 (by decide) rfl rfl rfl ?_
  obtain ⟨h1, g1⟩ := he.put (s' := upd sc 0 (nI 0))
  have f1 := jset_fr X 145 (jMo (upd sc 0 (nI 0)))
  generalize X.set 145 (jMo (upd sc 0 (nI 0))) = Y1 at h1 g1 f1
  refine kw_aload_n hB M_clear_10 rfl ?_
  refine kw_iconst hB M_clear_11 (v := nI 0) (by decide) ?_
  refine km_put hB M_clear_12 h1.c f_M_94 jw_M_10 (by decide) rfl rfl rfl ?_
  obtain ⟨h2, g2⟩ := h1.put (s' := upd (upd sc 0 (nI 0)) 10 (nI 0))
  have f2 := f1.tr (jset_fr Y1 145 (jMo (upd (upd sc 0 (nI 0)) 10 (nI 0))))
  generalize Y1.set 145 (jMo (upd (upd sc 0 (nI 0)) 10 (nI 0))) = Y2 at h2 g2 f2
  refine kw_aload_n hB M_clear_15 rfl ?_
  refine kw_iconst hB M_clear_16 (v := nI 0) (by decide) ?_
  refine km_put hB M_clear_17 h2.c f_M_113 jw_M_11 (by decide) rfl rfl rfl ?_
  obtain ⟨h3, g3⟩ := h2.put (s' := upd (upd (upd sc 0 (nI 0)) 10 (nI 0)) 11 (nI 0))
  have f3 := f2.tr (jset_fr Y2 145 (jMo (upd (upd (upd sc 0 (nI 0)) 10 (nI 0)) 11 (nI 0))))
  generalize Y2.set 145 (jMo (upd (upd (upd sc 0 (nI 0)) 10 (nI 0)) 11 (nI 0))) = Y3 at h3 g3 f3
  refine kw_aload_n hB M_clear_20 rfl ?_
  refine kw_iconst hB M_clear_21 (v := nI 0) (by decide) ?_
  refine km_put hB M_clear_22 h3.c f_M_97 jw_M_15 (by decide) rfl rfl rfl ?_
  obtain ⟨h4, g4⟩ := h3.put (s' := upd (upd (upd (upd sc 0 (nI 0)) 10 (nI 0)) 11 (nI 0)) 15 (nI 0))
  have f4 := f3.tr (jset_fr Y3 145 (jMo (upd (upd (upd (upd sc 0 (nI 0)) 10 (nI 0)) 11 (nI 0)) 15 (nI 0))))
  generalize Y3.set 145 (jMo (upd (upd (upd (upd sc 0 (nI 0)) 10 (nI 0)) 11 (nI 0)) 15 (nI 0))) = Y4 at h4 g4 f4
  have no : ∀ k, k ≠ 145 → k ∉ [145] := fun k hk z => hk (List.mem_singleton.mp z)
  refine kw_iload_n hB M_clear_25 rfl ?_
  refine kw_iret hF rfl M_clear_26 ⟨rfl, ⟨_, f, mf, rn, fa, h4, ⟨?_, ?_, ?_, pk_us .., ?_, ?_⟩, ⟨wh, on, tw, th, dp, bg, ol, el, bk, hp.fr f4 (fun k hk => by have := List.mem_singleton.mp hk; omega), fun i hi => absurd hi (by omega), fun x hx => (by cases hx), fun a x t e => (by cases a <;> cases e)⟩, f4.at (no _ (by decide)) h158, f4.at (no _ (by decide)) h159, f4.at (no _ (by decide)) h166, hi.fr f4 (fun k hk => by have := List.mem_singleton.mp hk; omega), fun z => (by cases z)⟩, f4.mono (fun k hk => jMS_mem.mpr (by have := List.mem_singleton.mp hk; omega))⟩ f4.1
  · rw [pk_un (by decide), pk_un (by decide), pk_un (by decide), pk_us]
  · rw [pk_un (by decide), pk_un (by decide), pk_us]; rfl
  · rw [pk_un (by decide), pk_us]
  · rw [pk_un (by decide), pk_un (by decide), pk_un (by decide), pk_un (by decide), q38]
  · rw [pk_un (by decide), pk_un (by decide), pk_un (by decide), pk_un (by decide), q39]
end JML4
