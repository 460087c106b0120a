-- Analysis: change
noncomputable def jThn (A B : jLan) : jLan := jMk (fun w => decide (B.2.1 &&& (jkr (jQn (jXf A) (jXf B) A.2.1 B.1) (jQk A.2.1 0 0) w % 64) ≠ 0))
noncomputable def jCh1 (nw : Nat → jLan) (k a b : Nat) : jLan := if k = 0 then jMk (fun v => decide (v = jWl (jmap (fun s => jlet s false) a))) else if k = 1 then jAllL 170 else if k = 2 then jThn (nw a) (jAtm 6 (nw b)) else jMk (jFn b (if b = 0 then nw a else jAtm 8 (nw a)))
noncomputable def jChg (nw : Nat → jLan) (k v a b : Nat) : Nat → jLan := if nw 0 = jEmp then nw else va_up nw v (jCh1 nw k a b)
theorem jNow.set {S : List Nat} {Z Y : ja_H} {nw : Nat → jLan} {v : Nat} {R : jLan} (hN : jNow Z nw) (hf : jfr S Z Y) (hS : ∀ k ∈ S, k < 70 ∨ 80 ≤ k ∨ k = 70 + 2 * v ∨ k = 70 + 2 * v + 1) (hR : jVal Y (70 + 2 * v) R) : jNow Y (va_up nw v R) := by
  intro v' hv'
  by_cases h : v' = v
  · subst h; rw [jup_self]; exact hR
  · rw [jup_ne h]
    exact (hN v' hv').fr hf (fun z => by have := hS _ z; omega) (fun z => by have := hS _ z; omega)
theorem jNow.fr {S : List Nat} {Z Y : ja_H} {nw : Nat → jLan} (hN : jNow Z nw) (hf : jfr S Z Y) (hS : ∀ k ∈ S, k < 70 ∨ 80 ≤ k) : jNow Y nw := fun v hv => (hN v hv).fr hf (fun z => by have := hS _ z; omega) (fun z => by have := hS _ z; omega)
/-- behind work with the automaton -/
theorem jSc.auto {S : List Nat} {X Y : ja_H} (h : jSc X) (hf : jfr S X Y) (hS : ∀ k ∈ S, k < 27 ∨ 58 ≤ k ∨ (31 ≤ k ∧ k < 40)) (b3 : jBx Y 31) : jSc Y := by
  have no : ∀ i, 40 ≤ i → i < 58 → i ∉ S := fun i h1 h2 z => by have := hS _ z; omega
  obtain ⟨ch, a4⟩ := h.2.2.2.1
  exact h.pair hf (fun k hk => by have := hS k hk; omega) b3 (hf.at (no _ (by decide) (by decide)) a4) (h.2.2.2.2.1.fr hf (no _ (by decide) (by decide)) (no _ (by decide) (by decide))) (h.2.2.2.2.2.1.fr hf (no _ (by decide) (by decide)) (no _ (by decide) (by decide)))
theorem jBx.o {X : ja_H} {b : Nat} (h : jBx X b) : ∃ fs, X[b]? = some (.inr (2, fs)) := ⟨_, h.choose_spec.choose_spec.choose_spec.choose_spec.choose_spec.choose_spec.choose_spec.choose_spec.choose_spec.1.1⟩
section JCH
variable (l : Launch) (D : va_G) (g : Nat × Nat) {X : ja_H}
set_option maxHeartbeats 8000000 in
set_option maxRecDepth 100000 in
theorem c_A_change {n at' : Nat} {md un : Int32} {K0 V A B M L : Nat → Nat} {nw : Nat → jLan} (h : jAo X md un) (hS : jSc X) (ha : jNa X) (hN : jNow X nw) (hR : jRv X 2 n K0 V A B M L) (hh : at' < n) (hk : K0 at' < 4) : AMet l D g 5 0 0 m_A_change [.ref 11, .ref 2, .int (nI at')] X (fun r X' => r = none ∧ jNow X' (jChg nw (K0 at') (V at') (A at') (B at')) ∧ jSc X' ∧ jfr (jNs ++ jZs) X X') := by
  have ha0 := ha
  obtain ⟨kd, vr, fs, sc, mt, lv, pt, hdd, sk, op, r, hn, hr⟩ := hR
  obtain ⟨r1, r2, r3, r4, -, r6, c0, c1, c2, c3, -⟩ := hr at' hh
  obtain ⟨fa, a1, a2⟩ := ha
  have hv := hN (V at') r6
  refine ja_metK (by decide) rfl (Nat.le_of_ble_eq_true rfl) fun K hB hF => ?_
  refine kw_aload_n hB A_change_0 rfl ?_
  refine kw_callV hB A_change_1 s_A_169 im_A_isDead se_A_isDead h rfl rfl (As := []) (c_A_isDead l D g h ha0 hN) rfl (by decide) (Nat.le_of_ble_eq_true rfl) (by omega) (by omega) (fun r X1 hq hl => ?_)
  obtain ⟨rfl, hxeq⟩ := hq
  obtain rfl := hxeq.symm
  refine kn_if_eq hB A_change_4 (by cases decide (nw 0 = jEmp) <;> decide) (fun hz => ?_) (fun hz => ?_)
  · have hne : ¬ nw 0 = jEmp := of_decide_eq_false (jb_f hz)
    have fin : ∀ (u : Value) (Y : ja_H), jfr (jNs ++ jZs) X Y → jSc Y → jNow Y (va_up nw (V at') (jCh1 nw (K0 at') (A at') (B at'))) → K 201 [.ref 11, .ref 2, .int (nI at'), .ref (70 + 2 * V at'), .int (nI (A at')), .int (nI (B at')), u] [] Y 0 0 := by
      intro u Y hf hSY hY
      have hle := hf.1
      refine kw_vret hF rfl A_change_201 ?_ (by omega)
      refine ⟨rfl, ?_, hSY, hf⟩
      unfold jChg
      rw [if_neg hne]
      exact hY
    refine kw_aload_n hB A_change_8 rfl ?_
    refine kw_getf hB A_change_9 f_A_33 h rfl ?_
    refine kw_aload_n hB A_change_12 rfl ?_
    refine kw_getf hB A_change_13 f_A_135 r.1 rfl ?_
    refine kw_iload_n hB A_change_16 rfl ?_
    refine kn_iald hB A_change_17 r.2.2.1 rfl (by omega) (by decide) ?_
    rw [r2]
    refine kn_aald hB A_change_18 a1 rfl rfl r6 (by decide) (a2 _ r6) ?_
    refine kw_astore_n hB A_change_19 rfl (by decide) rfl ?_
    refine kw_aload_n hB A_change_20 rfl ?_
    refine kw_getf hB A_change_21 f_A_132 r.1 rfl ?_
    refine kw_iload_n hB A_change_24 rfl ?_
    refine kn_iald hB A_change_25 r.2.2.2.1 rfl (by omega) (by decide) ?_
    rw [r3]
    refine kw_istore hB A_change_26 (by decide) rfl ?_
    refine kw_aload_n hB A_change_28 rfl ?_
    refine kw_getf hB A_change_29 f_A_173 r.1 rfl ?_
    refine kw_iload_n hB A_change_32 rfl ?_
    refine kn_iald hB A_change_33 r.2.2.2.2.1 rfl (by omega) (by decide) ?_
    rw [r4]
    refine kw_istore hB A_change_34 (by decide) rfl ?_
    refine kw_aload_n hB A_change_36 rfl ?_
    refine kw_getf hB A_change_37 f_A_108 r.1 rfl ?_
    refine kw_iload_n hB A_change_40 rfl ?_
    refine kn_iald hB A_change_41 r.2.1 rfl (by omega) (by decide) ?_
    rw [r1]
    have hki : (nI (K0 at')).toInt = (K0 at' : Int) := nI_toInt (by omega)
    have fin2 : ∀ (u : Value) (Y : ja_H), jfr [70 + 2 * V at', 70 + 2 * V at' + 1] X Y → jVal Y (70 + 2 * V at') (jCh1 nw (K0 at') (A at') (B at')) → K 201 [.ref 11, .ref 2, .int (nI at'), .ref (70 + 2 * V at'), .int (nI (A at')), .int (nI (B at')), u] [] Y 0 0 := by
      intro u Y hf hY
      have hm : ∀ k ∈ [70 + 2 * V at', 70 + 2 * V at' + 1], k = 70 + 2 * V at' ∨ k = 70 + 2 * V at' + 1 := fun k hk => by simpa using hk
      exact fin u Y (hf.mono (fun k hk => by have := hm k hk; rw [List.mem_append, jNs_mem]; omega)) (hS.fr hf (fun k hk => by have := hm k hk; omega)) (hN.set hf (fun k hk => by have := hm k hk; omega) hY)
    rcases (by omega : K0 at' = 0 ∨ K0 at' = 1 ∨ K0 at' = 2 ∨ K0 at' = 3) with hk | hk | hk | hk
    · obtain ⟨b1, b2⟩ := c0 hk
      refine kw_tableIn hB A_change_42 (off := 26) (tgt := 68) (by rw [hki, hk]; decide) (by rw [hki, hk]; decide) (by rw [hki, hk]; rfl) rfl ?_
      refine kw_aload_n hB A_change_68 rfl ?_
      refine kw_iload hB A_change_69 rfl ?_
      refine kw_iconst hB A_change_71 (v := nI 0) (by decide) ?_
      refine kw_callS hB A_change_72 s_A_176 st_W_ofConstant (As := [.int (nI (A at')), .int (nI false.toNat)]) (c_W_ofConstant l D g (t := false) b2 (fun i hi => jdg_dig b1 hi)) rfl (by decide) (Nat.le_of_ble_eq_true rfl) (by omega) (by omega) (fun r X1 hq hl => ?_)
      obtain ⟨rfl, hxeq⟩ := hq
      obtain rfl := hxeq.symm
      have hm := jmap_dg (f := fun c => jlet c false) (h := 8) (fun c x1 x2 => by simp only [jlet]; simp; omega) (by decide) _ b1
      have hlt : jmap (fun c => jlet c false) (A at') < 2 ^ 24 := by
        have := jlen_lt (w := jmap (fun c => jlet c false) (A at')) (n := 6) (by rw [hm.2]; exact jlen_le (by rw [← jp16]; exact b2))
        have e : (16 : Nat) ^ 6 = 16777216 := by decide
        omega
      refine kw_callV hB A_change_75 s_A_99 im_L_becomeWord se_L_becomeWord hv.1.choose_spec.1.1 rfl rfl (As := [.long (lN (jmap (fun s => jlet s false) (A at')))]) (w_L_becomeWord l D g hv.x hlt (fun i hi => jdg_dig hm.1 hi)) rfl (by decide) (Nat.le_of_ble_eq_true rfl) (by omega) (by omega) (fun r X1 hq hl => ?_)
      obtain ⟨rfl, e1, e2⟩ := hq
      refine kw_goto hB A_change_78 ?_
      refine fin2 _ X1 e2 ?_
      unfold jCh1
      rw [if_pos hk]
      exact e1
    · refine kw_tableIn hB A_change_42 (off := 39) (tgt := 81) (by rw [hki, hk]; decide) (by rw [hki, hk]; decide) (by rw [hki, hk]; rfl) rfl ?_
      refine kw_aload_n hB A_change_81 rfl ?_
      refine kw_sipush hB A_change_82 (v := nI 170) (by decide) ?_
      refine kw_callV hB A_change_85 s_A_180 im_L_becomeAllOf se_L_becomeAllOf hv.1.choose_spec.1.1 rfl rfl (As := [.int (nI 170)]) (w_L_becomeAllOf l D g hv.x (S := 170) (by decide)) rfl (by decide) (Nat.le_of_ble_eq_true rfl) (by omega) (by omega) (fun r X1 hq hl => ?_)
      obtain ⟨rfl, e1, e2⟩ := hq
      refine kw_goto hB A_change_88 ?_
      refine fin2 _ X1 e2 ?_
      unfold jCh1
      rw [if_neg (by omega), if_pos hk]
      exact e1
    · obtain ⟨ha5, hb5⟩ := c2 hk
      refine kw_tableIn hB A_change_42 (off := 49) (tgt := 91) (by rw [hki, hk]; decide) (by rw [hki, hk]; decide) (by rw [hki, hk]; rfl) rfl ?_
      refine kw_aload_n hB A_change_91 rfl ?_
      refine kw_getf hB A_change_92 f_A_70 h rfl ?_
      refine kw_aload_n hB A_change_95 rfl ?_
      refine kw_getf hB A_change_96 f_A_33 h rfl ?_
      refine kw_iload hB A_change_99 rfl ?_
      refine kn_aald hB A_change_101 a1 rfl rfl ha5 (by decide) (a2 _ ha5) ?_
      refine kw_aload_n hB A_change_102 rfl ?_
      refine kw_aload_n hB A_change_103 rfl ?_
      refine kw_getf hB A_change_104 f_A_33 h rfl ?_
      refine kw_iload hB A_change_107 rfl ?_
      refine kn_aald hB A_change_109 a1 rfl rfl hb5 (by decide) (a2 _ hb5) ?_
      refine kw_bipush hB A_change_110 (v := nI 6) (by decide) ?_
      refine kw_callV hB A_change_112 s_A_183 im_A_atMost se_A_atMost h rfl rfl (As := [.ref (70 + 2 * B at'), .int (nI 6)]) (c_A_atMost l D g h hS (hN _ hb5) (by omega) (by decide)) rfl (by decide) (Nat.le_of_ble_eq_true rfl) (by omega) (by omega) (fun r X1 hq hl => ?_)
      obtain ⟨q', rfl, hq', w1, w2, w3⟩ := hq
      have noW : ∀ k, k ≠ 29 → k ≠ 30 → k ∉ [29, 30] := fun k h1 h2 z => by simp only [List.mem_cons, List.not_mem_nil, or_false] at z; omega
      have hA1 := (hN _ ha5).fr w3 (noW _ (by omega) (by omega)) (noW _ (by omega) (by omega))
      have h1 : jAo X1 md un := w3.at (noW 11 (by decide) (by decide)) h
      have n1 : jNow X1 nw := hN.fr w3 (fun k hk => by simp only [List.mem_cons, List.not_mem_nil, or_false] at hk; omega)
      have f1 : jfr (jNs ++ jZs) X X1 := w3.mono (fun k hk => by rw [List.mem_append, jZs_mem]; simp only [List.mem_cons, List.not_mem_nil, or_false] at hk; omega)
      obtain ⟨t1, t2, t3, ⟨ch, t4⟩, t5, t6, t7, t8, t9, t10, t11, t12⟩ := w2
      refine kw_callV hB A_change_115 s_A_187 im_Q_use se_Q_use t7 rfl rfl (As := [.ref (70 + 2 * A at'), .ref q']) (c_Q_use l D g t7 t8 t9 hA1.1 w1.1 (Or.inr (by omega)) (hq'.elim (fun e => Or.inr (by rw [e]; omega)) (fun e => Or.inl (by rw [e]; decide)))) rfl (by decide) (Nat.le_of_ble_eq_true rfl) (by omega) (by omega) (fun r X1 hq hl => ?_)
      obtain ⟨rfl, u0, u1, u2, u3⟩ := hq
      have noU : ∀ k, k < 46 ∨ 49 < k → k ∉ [45 + 1, 45 + 2, 45 + 3, 45 + 4] := fun k hk z => by simp only [List.mem_cons, List.not_mem_nil, or_false] at z; omega
      have h2 : jAo X1 md un := u3.at (noU 11 (by decide)) h1
      have n2 : jNow X1 nw := n1.fr u3 (fun k hk => by simp only [List.mem_cons, List.not_mem_nil, or_false] at hk; omega)
      have f2 : jfr (jNs ++ jZs) X X1 := f1.tr (u3.mono (fun k hk => by rw [List.mem_append, jZs_mem]; simp only [List.mem_cons, List.not_mem_nil, or_false] at hk; omega))
      have t3' : jBx X1 31 := t3.fr u3 (fun k hk => by simp only [List.mem_cons, List.not_mem_nil, or_false] at hk; omega)
      have sc2 : jSc X1 := ⟨t1.fr u3 (noU _ (by decide)) (noU _ (by decide)), t2.fr u3 (noU _ (by decide)) (noU _ (by decide)), t3', ⟨ch, u3.at (noU _ (by decide)) t4⟩, t5.fr u3 (noU _ (by decide)) (noU _ (by decide)), t6.fr u3 (noU _ (by decide)) (noU _ (by decide)), u0, u1.x, u2.x, u3.at (noU _ (by decide)) t10, t11.fr u3 (noU _ (by decide)) (noU _ (by decide)), t12.fr u3 (fun k hk => by simp only [List.mem_cons, List.not_mem_nil, or_false] at hk; omega)⟩
      refine kw_aload_n hB A_change_118 rfl ?_
      refine kw_getf hB A_change_119 f_A_56 h2 rfl ?_
      refine kw_aload_n hB A_change_122 rfl ?_
      refine kw_getf hB A_change_123 f_A_70 h2 rfl ?_
      refine kw_callV hB A_change_126 s_A_158 im_B_explore se_B_explore t3'.o.choose_spec rfl rfl (As := [.ref 45]) (v_B_explore l D g t3' (jRl_Q l D g u0 u1 u2 (jAtm_le (by decide)) (Or.inr (by decide)))) rfl (by decide) (Nat.le_of_ble_eq_true rfl) (by omega) (by omega) (fun r X1 hq hl => ?_)
      obtain ⟨rfl, x1, x2⟩ := hq
      have noB : ∀ k, k < 31 ∨ 39 < k → k ∉ jBS 31 := fun k hk z => by simp only [List.mem_cons, List.not_mem_nil, or_false] at z; omega
      have h3 : jAo X1 md un := x2.at (noB 11 (by decide)) h2
      have n3 : jNow X1 nw := n2.fr x2 (fun k hk => by simp only [List.mem_cons, List.not_mem_nil, or_false] at hk; omega)
      have f3 : jfr (jNs ++ jZs) X X1 := f2.tr (x2.mono (fun k hk => by rw [List.mem_append, jZs_mem]; simp only [List.mem_cons, List.not_mem_nil, or_false] at hk; omega))
      have sc3 : jSc X1 := sc2.auto x2 (fun k hk => by simp only [List.mem_cons, List.not_mem_nil, or_false] at hk; omega) x1.x
      refine kw_aload_n hB A_change_129 rfl ?_
      refine kw_getf hB A_change_130 f_A_56 h3 rfl ?_
      refine kw_aload_n hB A_change_133 rfl ?_
      refine kw_callV hB A_change_134 s_A_190 im_B_reduce se_B_reduce x1.x.o.choose_spec rfl rfl (As := [.ref (70 + 2 * V at')]) (w_B_reduce l D g x1 (n3 _ r6).x (Or.inr (by omega))) rfl (by decide) (Nat.le_of_ble_eq_true rfl) (by omega) (by omega) (fun r X1 hq hl => ?_)
      obtain ⟨rfl, y1, y2, y3⟩ := hq
      refine kw_goto hB A_change_137 ?_
      refine fin _ X1 (f3.tr (y2.mono (fun k hk => ?_))) (sc3.auto y2 (fun k hk => ?_) y1) (n3.set y2 (fun k hk => ?_) ?_)
      · rw [List.mem_append, jZs_mem, jNs_mem]; simp only [List.mem_cons, List.not_mem_nil, or_false] at hk; omega
      · simp only [List.mem_cons, List.not_mem_nil, or_false] at hk; omega
      · simp only [List.mem_cons, List.not_mem_nil, or_false] at hk; omega
      · unfold jCh1
        rw [if_neg (by omega), if_neg (by omega), if_pos hk]
        exact y3
    · obtain ⟨ha5, hb3⟩ := c3 hk
      refine kw_tableOut hB A_change_42 (tgt := 140) (by rw [hki, hk]; decide) rfl ?_
      have app : ∀ (u : Value) (q' : Nat) (Y : ja_H) (L' : jLan), jVal Y q' L' → (58 ≤ q' ∨ q' = 29) → (B at' ≠ 0 → L'.1 ≤ 8) → jSc Y → jAo Y md un → jNow Y nw → jfr (jNs ++ jZs) X Y → jCh1 nw (K0 at') (A at') (B at') = jMk (jFn (B at') L') → K 185 [.ref 11, .ref 2, .int (nI at'), .ref (70 + 2 * V at'), .int (nI (A at')), .int (nI (B at')), u] [.ref q', .ref 11, .ref 31] Y 0 0 := by
        intro u q' Y L' w1 hq' h8 w2 h1 n1 f1 hch
        have hle := f1.1
        refine kw_iload hB A_change_185 rfl ?_
        refine kw_callV hB A_change_187 s_A_193 im_A_imageOf se_A_imageOf h1 rfl rfl (As := [.ref q', .int (nI (B at'))]) (c_A_imageOf l D g h1 w2 w1 hq' hb3 h8) rfl (by decide) (Nat.le_of_ble_eq_true rfl) (by omega) (by omega) (fun r X1 hq hl => ?_)
        obtain ⟨rq, V', fi, nxt, acc, rfl, j1, j2, sc2, u3⟩ := hq
        have mu : ∀ k ∈ List.range' 50 8, 50 ≤ k ∧ k < 58 := fun k hk => by rw [List.mem_range'_1] at hk; omega
        have h2 : jAo X1 md un := u3.at (fun z => by have := mu _ z; omega) h1
        have n2 : jNow X1 nw := n1.fr u3 (fun k hk => by have := mu _ hk; omega)
        have f2 : jfr (jNs ++ jZs) X X1 := f1.tr (u3.mono (fun k hk => by have := mu _ hk; rw [List.mem_append, jZs_mem]; omega))
        refine kw_callV hB A_change_190 s_A_158 im_B_explore se_B_explore sc2.2.2.1.o.choose_spec rfl rfl (As := [.ref rq]) (v_B_explore l D g sc2.2.2.1 j1) rfl (by decide) (Nat.le_of_ble_eq_true rfl) (by omega) (by omega) (fun r X1 hq hl => ?_)
        obtain ⟨rfl, x1, x2⟩ := hq
        have noB : ∀ k, k < 31 ∨ 39 < k → k ∉ jBS 31 := fun k hk z => by simp only [List.mem_cons, List.not_mem_nil, or_false] at z; omega
        have h3 : jAo X1 md un := x2.at (noB 11 (by decide)) h2
        have n3 : jNow X1 nw := n2.fr x2 (fun k hk => by simp only [List.mem_cons, List.not_mem_nil, or_false] at hk; omega)
        have f3 : jfr (jNs ++ jZs) X X1 := f2.tr (x2.mono (fun k hk => by rw [List.mem_append, jZs_mem]; simp only [List.mem_cons, List.not_mem_nil, or_false] at hk; omega))
        have sc3 : jSc X1 := sc2.auto x2 (fun k hk => by simp only [List.mem_cons, List.not_mem_nil, or_false] at hk; omega) x1.x
        refine kw_aload_n hB A_change_193 rfl ?_
        refine kw_getf hB A_change_194 f_A_56 h3 rfl ?_
        refine kw_aload_n hB A_change_197 rfl ?_
        refine kw_callV hB A_change_198 s_A_190 im_B_reduce se_B_reduce x1.x.o.choose_spec rfl rfl (As := [.ref (70 + 2 * V at')]) (w_B_reduce l D g x1 (n3 _ r6).x (Or.inr (by omega))) rfl (by decide) (Nat.le_of_ble_eq_true rfl) (by omega) (by omega) (fun r X1 hq hl => ?_)
        obtain ⟨rfl, y1, y2, y3⟩ := hq
        refine fin _ X1 (f3.tr (y2.mono (fun k hk => ?_))) (sc3.auto y2 (fun k hk => ?_) y1) (n3.set y2 (fun k hk => ?_) ?_)
        · rw [List.mem_append, jZs_mem, jNs_mem]; simp only [List.mem_cons, List.not_mem_nil, or_false] at hk; omega
        · simp only [List.mem_cons, List.not_mem_nil, or_false] at hk; omega
        · simp only [List.mem_cons, List.not_mem_nil, or_false] at hk; omega
        · rw [hch, ← jMk_congr j2]
          exact y3
      have hch : ∀ L', (if B at' = 0 then nw (A at') else jAtm 8 (nw (A at'))) = L' → jCh1 nw (K0 at') (A at') (B at') = jMk (jFn (B at') L') := by
        intro L' e
        unfold jCh1
        rw [if_neg (by omega), if_neg (by omega), if_neg (by omega), e]
      refine kw_iload hB A_change_140 rfl ?_
      refine kn_if_eq hB A_change_142 (by omega) (fun hz => ?_) (fun hz => ?_)
      · refine kw_iconst hB A_change_149 (v := nI 0) (by decide) ?_
        refine kw_istore hB A_change_150 (by decide) rfl ?_
        refine kw_aload_n hB A_change_152 rfl ?_
        refine kw_getf hB A_change_153 f_A_56 h rfl ?_
        refine kw_aload_n hB A_change_156 rfl ?_
        refine kw_iload hB A_change_157 rfl ?_
        refine kn_if_eq hB A_change_159 (by decide) (fun _ => ?_) (fun hc => absurd rfl hc)
        refine kw_aload_n hB A_change_178 rfl ?_
        refine kw_getf hB A_change_179 f_A_33 h rfl ?_
        refine kw_iload hB A_change_182 rfl ?_
        refine kn_aald hB A_change_184 a1 rfl rfl ha5 (by decide) (a2 _ ha5) ?_
        exact app _ _ _ _ (hN _ ha5) (Or.inl (by omega)) (fun z => absurd hz z) hS h hN (jfr.rf _ _) (hch _ (if_pos hz))
      · refine kw_iconst hB A_change_145 (v := nI 1) (by decide) ?_
        refine kw_goto hB A_change_146 ?_
        refine kw_istore hB A_change_150 (by decide) rfl ?_
        refine kw_aload_n hB A_change_152 rfl ?_
        refine kw_getf hB A_change_153 f_A_56 h rfl ?_
        refine kw_aload_n hB A_change_156 rfl ?_
        refine kw_iload hB A_change_157 rfl ?_
        refine kn_if_eq hB A_change_159 (by decide) (fun hc => absurd hc (by decide)) (fun _ => ?_)
        refine kw_aload_n hB A_change_162 rfl ?_
        refine kw_aload_n hB A_change_163 rfl ?_
        refine kw_getf hB A_change_164 f_A_33 h rfl ?_
        refine kw_iload hB A_change_167 rfl ?_
        refine kn_aald hB A_change_169 a1 rfl rfl ha5 (by decide) (a2 _ ha5) ?_
        refine kw_bipush hB A_change_170 (v := nI 8) (by decide) ?_
        refine kw_callV hB A_change_172 s_A_183 im_A_atMost se_A_atMost h rfl rfl (As := [.ref (70 + 2 * A at'), .int (nI 8)]) (c_A_atMost l D g h hS (hN _ ha5) (by omega) (by decide)) rfl (by decide) (Nat.le_of_ble_eq_true rfl) (by omega) (by omega) (fun r X1 hq hl => ?_)
        obtain ⟨q', rfl, hq', w1, w2, w3⟩ := hq
        have noW : ∀ k, k ≠ 29 → k ≠ 30 → k ∉ [29, 30] := fun k h1 h2 z => by simp only [List.mem_cons, List.not_mem_nil, or_false] at z; omega
        refine kw_goto hB A_change_175 ?_
        exact app _ _ _ _ w1 (hq'.elim (fun e => Or.inl (by rw [e]; omega)) (fun e => Or.inr e)) (fun _ => jAtm_le (by decide)) w2 (w3.at (noW 11 (by decide) (by decide)) h) (hN.fr w3 (fun k hk => by simp only [List.mem_cons, List.not_mem_nil, or_false] at hk; omega)) (w3.mono (fun k hk => by rw [List.mem_append, jZs_mem]; simp only [List.mem_cons, List.not_mem_nil, or_false] at hk; omega)) (hch _ (if_neg hz))
  · have he : nw 0 = jEmp := of_decide_eq_true (jb_t hz)
    refine kw_vret hF rfl A_change_7 ?_ (by omega)
    refine ⟨rfl, ?_, hS, jfr.rf _ _⟩
    unfold jChg
    rw [if_pos he]
    exact hN
end JCH
