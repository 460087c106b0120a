-- the model: keep, plain
/-- the rows of lines -/
def jPa (X : ja_H) (wh on tw th dp bg ol el bk : Nat → Int32) : Prop := X[146]? = some (.inl (0, 24, .inl wh)) ∧ X[147]? = some (.inl (0, 24, .inl on)) ∧ X[148]? = some (.inl (0, 24, .inl tw)) ∧ X[149]? = some (.inl (0, 24, .inl th)) ∧ X[150]? = some (.inl (0, 24, .inl dp)) ∧ X[151]? = some (.inl (0, 24, .inl bg)) ∧ X[152]? = some (.inl (0, 24, .inl ol)) ∧ X[153]? = some (.inl (0, 24, .inl el)) ∧ X[154]? = some (.inl (0, 3, .inl bk))
theorem jPa.fr {S : List Nat} {X Y : ja_H} {wh on tw th dp bg ol el bk : Nat → Int32} (h : jPa X wh on tw th dp bg ol el bk) (hf : jfr S X Y) (hS : ∀ k ∈ S, k < 146 ∨ 154 < k) : jPa Y wh on tw th dp bg ol el bk := by
  obtain ⟨h0, h1, h2, h3, h4, h5, h6, h7, h8⟩ := h
  have no : ∀ j, 146 ≤ j → j ≤ 154 → j ∉ S := fun j h1 h2 z => by have := hS j z; omega
  exact ⟨hf.at (no _ (by decide) (by decide)) h0, hf.at (no _ (by decide) (by decide)) h1, hf.at (no _ (by decide) (by decide)) h2, hf.at (no _ (by decide) (by decide)) h3, hf.at (no _ (by decide) (by decide)) h4, hf.at (no _ (by decide) (by decide)) h5, hf.at (no _ (by decide) (by decide)) h6, hf.at (no _ (by decide) (by decide)) h7, hf.at (no _ (by decide) (by decide)) h8⟩
theorem jMks_mem {k : Nat} : k ∈ jMks ↔ k = 145 ∨ k = 155 ∨ k = 156 ∨ k = 157 ∨ (160 ≤ k ∧ k ≤ 165) := by
  simp only [jMks, List.mem_cons, List.not_mem_nil, or_false]
  omega
/-- a closed program's lines in the model -/
def jMq (X : ja_H) (n : Nat) (K V A B M L : Nat → Nat) : Prop := ∃ wh on tw th dp bg ol el bk, jPa X wh on tw th dp bg ol el bk ∧ n ≤ 24 ∧ ∀ i, i < n → wh i = nI (if K i = 9 then 8 else K i) ∧ on i = nI (V i) ∧ tw i = nI (A i) ∧ th i = nI (B i) ∧ (∃ d, d ≤ 3 ∧ dp i = nI d) ∧ (K i = 5 ∨ K i = 7 → dp i = nI (L i)) ∧ (K i = 6 → bg i = nI (M (M i))) ∧ (8 ≤ K i → bg i = nI (M i) ∧ el (M i) = nI i) ∧ (K i = 8 → ol (M i) = if M (M i) = i then -1 else nI (M (M i))) ∧ (K i = 5 → ol i = if K (M i) = 6 then nI (M i) else -1)
theorem jMq.fr {X Y : ja_H} {n : Nat} {K V A B M L : Nat → Nat} {S : List Nat} (h : jMq X n K V A B M L) (hf : jfr S X Y) (hS : ∀ k ∈ S, k < 146 ∨ 154 < k) : jMq Y n K V A B M L := by
  obtain ⟨wh, on, tw, th, dp, bg, ol, el, bk, a, b⟩ := h
  exact ⟨wh, on, tw, th, dp, bg, ol, el, bk, a.fr hf hS, b⟩
theorem jmk_lo : ∀ k ∈ jMks, k < 146 ∨ 154 < k := fun k hk => by rw [jMks_mem] at hk; omega
section JMA2
variable (l : Launch) (D : va_G) (g : Nat × Nat) {X : ja_H} {s : Nat → Int32} {f : Nat → Option jLan} {n : Nat} {K V A B M L : Nat → Nat}
set_option maxHeartbeats 8000000 in
set_option maxRecDepth 100000 in
theorem c_M_keep {i : Nat} {b : Bool} {nw : Nat → jLan} (h : jMe X s f) (hq : jMq X n K V A B M L) (hi : i < n) (hln : jLn (K i) (V i) (A i) (B i)) (hk : K i = 5 ∨ K i = 7) (hN : ∀ v, v < 5 → f v = some (nw v)) (hA : jAon nw) :
    AMet l D g 7 0 0 m_M_keep [.ref 145, .int (nI i), .int (nI b.toNat)] X (fun r X' => r = none ∧ ∃ s' f', jMe X' s' f' ∧ (∀ v, v < 5 → f' v = some (jKp nw (V i) (A i) (B i) (!b) v)) ∧ (∀ c, 5 ≤ c → c ≠ 41 → c ≠ 42 → f' c = f c) ∧ jKs s s' ∧ jfr jMks X X') := by
  obtain ⟨wh, on, tw, th, dp, bg, ol, el, bk, hp, hn24, hl⟩ := hq
  obtain ⟨l1, l2, l3, l4, -⟩ := hl i hi
  obtain ⟨m1, m2, -, -, -, -, -, m8⟩ := hln
  obtain ⟨k1, k2, k3⟩ := m8 hk
  refine ja_metK (by decide) rfl (Nat.le_of_ble_eq_true rfl) fun K9 hB hF => ?_
  refine kw_aload_n hB M_keep_0 rfl ?_
  refine kw_iconst hB M_keep_1 (v := nI 0) (by decide) ?_
  refine kw_callV hB M_keep_2 s_M_216 im_M_empty se_M_empty h.c rfl rfl (As := [.int (nI 0)]) (w_M_empty l D g h (by decide) (hN 0 (by decide))) rfl (by decide) (Nat.le_of_ble_eq_true rfl) (by omega) (by omega) (fun r X1 hq hl => ?_)
  obtain ⟨rfl, hxeq⟩ := hq
  obtain rfl := hxeq.symm
  refine kn_if_eq hB M_keep_5 (by cases decide (nw 0 = jEmp) <;> decide) (fun z => ?_) (fun z => ?_)
  rotate_left
  · have he : nw 0 = jEmp := of_decide_eq_true (jb_t z)
    have hall : ∀ v, v < 5 → nw v = jEmp := hA.resolve_right (fun w => w 0 (by decide) he)
    have hkp : jKpL (nw (V i)) (A i) (B i) (!b) = jEmp := by
      unfold jKpL
      exact jMk_emp (fun w _ => by rw [hall _ m2, jEmp_ac]; rfl)
    refine kw_vret hF rfl M_keep_8 ⟨rfl, s, f, h, fun v hv => ?_, fun _ _ _ _ => rfl, jKs.rf s, jfr.rf _ _⟩ (by simp)
    rw [hN v hv, hall v hv]
    unfold jKp
    rw [if_pos hkp]
  · refine kw_aload_n hB M_keep_9 rfl ?_
    refine kw_iconst hB M_keep_10 (v := nI 5) (by decide) ?_
    refine km_put hB M_keep_11 h.c f_M_132 jw_M_18 (by decide) rfl rfl rfl ?_
    obtain ⟨h1, g1⟩ := h.put (s' := upd s 18 (nI 5))
    have p1 := hp.fr g1 jmk_lo
    generalize X.set 145 (jMo (upd s 18 (nI 5))) = Y1 at h1 g1 p1
    refine kw_aload_n hB M_keep_14 rfl ?_
    refine kw_aload_n hB M_keep_15 rfl ?_
    refine kw_getf hB M_keep_16 f_M_13 h1.c rfl ?_
    refine kw_iload_n hB M_keep_19 rfl ?_
    refine kn_iald hB M_keep_20 p1.2.1 rfl (by omega) (by decide) ?_
    rw [l2]
    refine km_put hB M_keep_21 h1.c f_M_123 jw_M_19 (by decide) rfl rfl rfl ?_
    obtain ⟨h2, g2⟩ := h1.put (s' := upd (upd s 18 (nI 5)) 19 (nI (V i)))
    have p2 := p1.fr g2 jmk_lo
    generalize Y1.set 145 (jMo (upd (upd s 18 (nI 5)) 19 (nI (V i)))) = Y2 at h2 g2 p2
    refine kw_aload_n hB M_keep_24 rfl ?_
    refine kw_aload_n hB M_keep_25 rfl ?_
    refine kw_getf hB M_keep_26 f_M_16 h2.c rfl ?_
    refine kw_iload_n hB M_keep_29 rfl ?_
    refine kn_iald hB M_keep_30 p2.2.2.1 rfl (by omega) (by decide) ?_
    rw [l3]
    refine km_put hB M_keep_31 h2.c f_M_145 jw_M_21 (by decide) rfl rfl rfl ?_
    obtain ⟨h3, g3⟩ := h2.put (s' := upd (upd (upd s 18 (nI 5)) 19 (nI (V i))) 21 (nI (A i)))
    have p3 := p2.fr g3 jmk_lo
    generalize Y2.set 145 (jMo (upd (upd (upd s 18 (nI 5)) 19 (nI (V i))) 21 (nI (A i)))) = Y3 at h3 g3 p3
    refine kw_aload_n hB M_keep_34 rfl ?_
    refine kw_aload_n hB M_keep_35 rfl ?_
    refine kw_getf hB M_keep_36 f_M_19 h3.c rfl ?_
    refine kw_iload_n hB M_keep_39 rfl ?_
    refine kn_iald hB M_keep_40 p3.2.2.2.1 rfl (by omega) (by decide) ?_
    rw [l4]
    refine km_put hB M_keep_41 h3.c f_M_142 jw_M_22 (by decide) rfl rfl rfl ?_
    obtain ⟨h4, g4⟩ := h3.put (s' := upd (upd (upd (upd s 18 (nI 5)) 19 (nI (V i))) 21 (nI (A i))) 22 (nI (B i)))
    have p4 := p3.fr g4 jmk_lo
    generalize Y3.set 145 (jMo (upd (upd (upd (upd s 18 (nI 5)) 19 (nI (V i))) 21 (nI (A i))) 22 (nI (B i)))) = Y4 at h4 g4 p4
    refine kw_aload_n hB M_keep_44 rfl ?_
    refine kw_iload_n hB M_keep_45 rfl ?_
    refine km_put hB M_keep_46 h4.c f_M_167 jw_M_23 (by decide) (by cases b <;> rfl) (by cases b <;> rfl) rfl ?_
    obtain ⟨h5, g5⟩ := h4.put (s' := upd (upd (upd (upd (upd s 18 (nI 5)) 19 (nI (V i))) 21 (nI (A i))) 22 (nI (B i))) 23 (nI b.toNat))
    have p5 := p4.fr g5 jmk_lo
    generalize Y4.set 145 (jMo (upd (upd (upd (upd (upd s 18 (nI 5)) 19 (nI (V i))) 21 (nI (A i))) 22 (nI (B i))) 23 (nI b.toNat))) = Y5 at h5 g5 p5
    have ks5 : jKs s (upd (upd (upd (upd (upd s 18 (nI 5)) 19 (nI (V i))) 21 (nI (A i))) 22 (nI (B i))) 23 (nI b.toNat)) := (((((jKs.rf s).up (by decide)).up (by decide)).up (by decide)).up (by decide)).up (by decide)
    have g0 := (((g1.tr g2).tr g3).tr g4).tr g5
    have hl0 := g0.1
    have fV := hN (V i) m2
    have hmk := w_M_make l D g (to := 42) (L := jKpL (nw (V i)) (A i) (B i) (!b)) h5 (fun st gd tb he => ⟨_, _, _, _, jRu_KEEP l D g (p := V i) (kd := A i) (sy := B i) (b := b) (by rw [pk_un (by decide), pk_un (by decide), pk_un (by decide), pk_un (by decide), pk_us]) (by rw [pk_un (by decide), pk_un (by decide), pk_un (by decide), pk_us]) (by rw [pk_un (by decide), pk_un (by decide), pk_us]) (by rw [pk_un (by decide), pk_us]) (pk_us ..) k1 k3 (by omega) (by omega) (he (V i) _ (by omega) fV), jKeep_mk (he (V i) _ (by omega) fV).1⟩) (by decide) (by decide)
    refine kw_aload_n hB M_keep_49 rfl ?_
    refine kw_bipush hB M_keep_50 (v := nI 42) (by decide) ?_
    refine kw_callV hB M_keep_52 s_M_213 im_M_make se_M_make h5.c rfl rfl (As := [.int (nI 42)]) (hmk) rfl (by decide) (Nat.le_of_ble_eq_true rfl) (by omega) (by omega) (fun r X1 hq hl => ?_)
    obtain ⟨rfl, s6, h6, ks6, g6⟩ := hq
    have g06 := g0.tr g6
    have hl6 := g06.1
    have p6 := p5.fr g6 jmk_lo
    have f42 : va_up (va_up f 41 (some (jKpL (nw (V i)) (A i) (B i) (!b)))) 42 (some (jKpL (nw (V i)) (A i) (B i) (!b))) 42 = some (jKpL (nw (V i)) (A i) (B i) (!b)) := jup_self
    refine kw_aload_n hB M_keep_55 rfl ?_
    refine kw_bipush hB M_keep_56 (v := nI 42) (by decide) ?_
    refine kw_callV hB M_keep_58 s_M_216 im_M_empty se_M_empty h6.c rfl rfl (As := [.int (nI 42)]) (w_M_empty l D g h6 (by decide) f42) rfl (by decide) (Nat.le_of_ble_eq_true rfl) (by omega) (by omega) (fun r X1 hq hl => ?_)
    obtain ⟨rfl, hxeq⟩ := hq
    obtain rfl := hxeq.symm
    refine kn_if_eq hB M_keep_61 (by cases decide (jKpL (nw (V i)) (A i) (B i) (!b) = jEmp) <;> decide) (fun z2 => ?_) (fun z2 => ?_)
    · have hne : ¬ jKpL (nw (V i)) (A i) (B i) (!b) = jEmp := of_decide_eq_false (jb_f z2)
      refine kw_aload_n hB M_keep_85 rfl ?_
      refine kw_bipush hB M_keep_86 (v := nI 42) (by decide) ?_
      refine kw_aload_n hB M_keep_88 rfl ?_
      refine kw_getf hB M_keep_89 f_M_13 h6.c rfl ?_
      refine kw_iload_n hB M_keep_92 rfl ?_
      refine kn_iald hB M_keep_93 p6.2.1 rfl (by omega) (by decide) ?_
      rw [l2]
      refine kw_callV hB M_keep_94 s_M_196 im_M_copy se_M_copy h6.c rfl rfl (As := [.int (nI 42), .int (nI (V i))]) (w_M_copy l D g h6 (by decide) (by omega) f42) rfl (by decide) (Nat.le_of_ble_eq_true rfl) (by omega) (by omega) (fun r X1 hq hl => ?_)
      obtain ⟨rfl, h7, g7⟩ := hq
      have g07 := g06.tr g7
      refine kw_vret hF rfl M_keep_97 ⟨rfl, s6, _, h7, fun v hv => ?_, fun c c1 c2 c3 => ?_, ks5.tr ks6, g07⟩ g07.1
      · unfold jKp
        rw [if_neg hne]
        by_cases zv : v = V i
        · subst zv; rw [jup_self, jup_self]
        · rw [jup_ne zv, jup_ne zv, jup_ne (by omega), jup_ne (by omega)]; exact hN v hv
      · rw [jup_ne (by omega), jup_ne c3, jup_ne c2]
    · have he : jKpL (nw (V i)) (A i) (B i) (!b) = jEmp := of_decide_eq_true (jb_t z2)
      have loop : ∀ p v (f1 : Nat → Option jLan) (Y : ja_H), v + p = 5 → jMe Y s6 f1 → (∀ v', v' < v → f1 v' = some jEmp) → (∀ c, 5 ≤ c → c ≠ 41 → c ≠ 42 → f1 c = f c) → jfr jMks X Y → K9 66 [.ref 145, .int (nI i), .int (nI b.toNat), .int (nI v)] [] Y 0 0 := by
        intro p
        induction p with
        | zero =>
          intro v f1 Y hv e1 e2 e3 hf
          refine kw_iload_n hB M_keep_66 rfl ?_
          refine kw_iconst hB M_keep_67 (v := nI 5) (by decide) ?_
          refine kn_icmp_ge hB M_keep_68 (by omega) (by decide) (fun _ => ?_) (fun z => absurd z (by omega))
          refine kw_goto hB M_keep_82 ?_
          refine kw_vret hF rfl M_keep_97 ⟨rfl, s6, f1, e1, fun v' hv' => ?_, e3, ks5.tr ks6, hf⟩ hf.1
          rw [e2 v' (by omega)]
          unfold jKp
          rw [if_pos he]
        | succ p ih =>
          intro v f1 Y hv e1 e2 e3 hf
          refine kw_iload_n hB M_keep_66 rfl ?_
          refine kw_iconst hB M_keep_67 (v := nI 5) (by decide) ?_
          refine kn_icmp_ge hB M_keep_68 (by omega) (by decide) (fun z => absurd z (by omega)) (fun _ => ?_)
          refine kw_aload_n hB M_keep_71 rfl ?_
          refine kw_iload_n hB M_keep_72 rfl ?_
          refine kw_callV hB M_keep_73 s_M_225 im_M_none se_M_none e1.c rfl rfl (As := [.int (nI v)]) (w_M_none l D g e1 (by omega)) rfl (by decide) (Nat.le_of_ble_eq_true rfl) (by omega) (by omega) (fun r X1 hq hl => ?_)
          obtain ⟨rfl, q1, q2⟩ := hq
          refine kn_iinc hB M_keep_76 rfl (by decide) rfl ?_
          refine kw_goto hB M_keep_79 ?_
          refine ih (v + 1) _ X1 (by omega) q1 (fun v' hv' => ?_) (fun c c1 c2 c3 => ?_) (hf.tr q2)
          · by_cases zv : v' = v
            · subst zv; rw [jup_self]
            · rw [jup_ne zv]; exact e2 v' (by omega)
          · rw [jup_ne (by omega)]; exact e3 c c1 c2 c3
      refine kw_iconst hB M_keep_64 (v := nI 0) (by decide) ?_
      refine kw_istore_n hB M_keep_65 rfl (by decide) rfl ?_
      exact loop 5 0 _ _ (by omega) h6 (fun v' hv' => absurd hv' (by omega)) (fun c c1 c2 c3 => by rw [jup_ne c3, jup_ne c2]) g06
set_option maxHeartbeats 16000000 in
set_option maxRecDepth 100000 in
theorem c_M_plain {i : Nat} {nw : Nat → jLan} (h : jMe X s f) (hq : jMq X n K V A B M L) (hi : i < n) (hln : jLn (K i) (V i) (A i) (B i)) (hk : K i < 4) (hN : ∀ v, v < 5 → f v = some (nw v)) :
    AMet l D g 9 0 0 m_M_plain [.ref 145, .int (nI i)] X (fun r X' => r = none ∧ ∃ s' f', jMe X' s' f' ∧ (∀ v, v < 5 → f' v = some (va_up nw (V i) (jCh1 nw (K i) (A i) (B i)) v)) ∧ (∀ c, 5 ≤ c → c ≠ 41 → c ≠ 42 → f' c = f c) ∧ jKs s s' ∧ jfr jMks X X') := by
  obtain ⟨wh, on, tw, th, dp, bg, ol, el, bk, hp, hn24, hl⟩ := hq
  obtain ⟨l1, l2, l3, l4, -⟩ := hl i hi
  rw [if_neg (by omega)] at l1
  obtain ⟨m1, m2, mS, mG, mJ, mA, -, -⟩ := hln
  refine ja_metK (by decide) rfl (Nat.le_of_ble_eq_true rfl) fun K9 hB hF => ?_
  -- behind the last make
  have fin : ∀ (Y Z : ja_H) (s1 s2 : Nat → Int32) (f1 : Nat → Option jLan) (u : Value), jfr jMks X Y → jKs s s1 → (∀ c, c ≠ 41 → c ≠ 42 → f1 c = f c) → jMe Z s2 (va_up (va_up f1 41 (some (jCh1 nw (K i) (A i) (B i)))) (V i) (some (jCh1 nw (K i) (A i) (B i)))) → jKs s1 s2 → jfr jMks Y Z → K9 232 [.ref 145, .int (nI i), .int (nI (V i)), u] [] Z 0 0 := by
    intro Y Z s1 s2 f1 u g1 ks1 hf1 h2 ks2 g2
    have g12 := g1.tr g2
    refine kw_vret hF rfl M_plain_232 ⟨rfl, s2, _, h2, fun v hv => ?_, fun c c1 c2 c3 => ?_, ks1.tr ks2, g12⟩ g12.1
    · by_cases zv : v = V i
      · subst zv; rw [jup_self, jup_self]
      · rw [jup_ne zv, jup_ne zv, jup_ne (by omega), hf1 v (by omega) (by omega)]; exact hN v hv
    · rw [jup_ne (by omega), jup_ne c2]; exact hf1 c c2 c3
  refine kw_aload_n hB M_plain_0 rfl ?_
  refine kw_getf hB M_plain_1 f_M_13 h.c rfl ?_
  refine kw_iload_n hB M_plain_4 rfl ?_
  refine kn_iald hB M_plain_5 hp.2.1 rfl (by omega) (by decide) ?_
  rw [l2]
  refine kw_istore_n hB M_plain_6 rfl (by decide) rfl ?_
  refine kw_aload_n hB M_plain_7 rfl ?_
  refine kw_getf hB M_plain_8 f_M_7 h.c rfl ?_
  refine kw_iload_n hB M_plain_11 rfl ?_
  refine kn_iald hB M_plain_12 hp.1 rfl (by omega) (by decide) ?_
  rw [l1]
  refine kn_if_ne hB M_plain_13 (by omega) (fun k0 => ?_) (fun k0 => ?_)
  rotate_left
  · -- SET
    obtain ⟨d1, d2⟩ := mS k0
    refine kw_aload_n hB M_plain_16 rfl ?_
    refine kw_bipush hB M_plain_17 (v := nI 6) (by decide) ?_
    refine km_put hB M_plain_19 h.c f_M_132 jw_M_18 (by decide) rfl rfl rfl ?_
    obtain ⟨h1, g1⟩ := h.put (s' := upd s 18 (nI 6))
    have p1 := hp.fr g1 jmk_lo
    generalize X.set 145 (jMo (upd s 18 (nI 6))) = Y1 at h1 g1 p1
    refine kw_aload_n hB M_plain_22 rfl ?_
    refine kw_aload_n hB M_plain_23 rfl ?_
    refine kw_getf hB M_plain_24 f_M_16 h1.c rfl ?_
    refine kw_iload_n hB M_plain_27 rfl ?_
    refine kn_iald hB M_plain_28 p1.2.2.1 rfl (by omega) (by decide) ?_
    rw [l3]
    refine km_put hB M_plain_29 h1.c f_M_129 jw_M_24 (by decide) rfl rfl rfl ?_
    obtain ⟨h2, g2⟩ := h1.put (s' := upd (upd s 18 (nI 6)) 24 (nI (A i)))
    generalize Y1.set 145 (jMo (upd (upd s 18 (nI 6)) 24 (nI (A i)))) = Y2 at h2 g2
    have ks2 : jKs s (upd (upd s 18 (nI 6)) 24 (nI (A i))) := ((jKs.rf s).up (by decide)).up (by decide)
    have g12 := g1.tr g2
    have hl2 := g12.1
    have hmk := w_M_make l D g (to := V i) (L := jCh1 nw (K i) (A i) (B i)) h2 (fun st gd tb he => ⟨_, _, _, _, jRu_WORD l D g (a := A i) (by rw [pk_un (by decide), pk_us]) (pk_us ..) d2 d1, by unfold jCh1; rw [if_pos k0]; exact jWord_mk d2 d1⟩) (by omega) (by omega)
    refine kw_aload_n hB M_plain_32 rfl ?_
    refine kw_iload_n hB M_plain_33 rfl ?_
    refine kw_callV hB M_plain_34 s_M_213 im_M_make se_M_make h2.c rfl rfl (As := [.int (nI (V i))]) (hmk) rfl (by decide) (Nat.le_of_ble_eq_true rfl) (by omega) (by omega) (fun r X1 hq hl => ?_)
    obtain ⟨rfl, s3, h3, ks3, g3⟩ := hq
    refine kw_goto hB M_plain_37 ?_
    exact fin _ _ _ s3 f _ g12 ks2 (fun _ _ _ => rfl) h3 ks3 g3
  refine kw_aload_n hB M_plain_40 rfl ?_
  refine kw_getf hB M_plain_41 f_M_7 h.c rfl ?_
  refine kw_iload_n hB M_plain_44 rfl ?_
  refine kn_iald hB M_plain_45 hp.1 rfl (by omega) (by decide) ?_
  rw [l1]
  refine kw_iconst hB M_plain_46 (v := nI 1) (by decide) ?_
  refine kn_icmp_ne hB M_plain_47 (by omega) (by decide) (fun k1 => ?_) (fun k1 => ?_)
  rotate_left
  · -- GET
    refine kw_aload_n hB M_plain_50 rfl ?_
    refine kw_iload_n hB M_plain_51 rfl ?_
    refine kw_sipush hB M_plain_52 (v := nI 340) (by decide) ?_
    refine kw_callV hB M_plain_55 s_M_219 im_M_all se_M_all h.c rfl rfl (As := [.int (nI (V i)), .int (nI 340)]) (w_M_all l D g (S := 170) h (by decide) (by omega) (by omega)) rfl (by decide) (Nat.le_of_ble_eq_true rfl) (by omega) (by omega) (fun r X1 hq hl => ?_)
    obtain ⟨rfl, s3, h3, ks3, g3⟩ := hq
    refine kw_goto hB M_plain_58 ?_
    refine fin _ _ s s3 f _ (jfr.rf _ _) (jKs.rf s) (fun _ _ _ => rfl) ?_ ks3 g3
    have : jCh1 nw (K i) (A i) (B i) = jAllL 170 := by unfold jCh1; rw [if_neg k0, if_pos k1]
    rw [this]
    exact h3
  refine kw_aload_n hB M_plain_61 rfl ?_
  refine kw_getf hB M_plain_62 f_M_7 h.c rfl ?_
  refine kw_iload_n hB M_plain_65 rfl ?_
  refine kn_iald hB M_plain_66 hp.1 rfl (by omega) (by decide) ?_
  rw [l1]
  refine kw_iconst hB M_plain_67 (v := nI 2) (by decide) ?_
  refine kn_icmp_ne hB M_plain_68 (by omega) (by decide) (fun k2 => ?_) (fun k2 => ?_)
  rotate_left
  · -- JOIN
    obtain ⟨a5, b5⟩ := mJ k2
    have fA := hN (A i) a5
    have fB := hN (B i) b5
    obtain ⟨st, gd, tb, htr, hte⟩ := h.tr
    have aB := hte (B i) _ (by omega) fB
    have aA := hte (A i) _ (by omega) fA
    have hB24 := aB.1.2.2.1
    have hch : jCh1 nw (K i) (A i) (B i) = jThn (nw (A i)) (jAtm 6 (nw (B i))) := by unfold jCh1; rw [if_neg k0, if_neg k1, if_pos k2]
    rw [hch] at fin
    -- from 109 on, with the second language in slot q
    have join : ∀ (q : Nat) (wd : Bool) (Y : ja_H) (s1 : Nat → Int32) (f1 : Nat → Option jLan), (wd = true → q = 42) → (wd = false → q = B i) → jMe Y s1 f1 → f1 q = some (jAtm 6 (nw (B i))) → f1 (A i) = some (nw (A i)) → (∀ c, c ≠ 41 → c ≠ 42 → f1 c = f c) → q < 43 → q ≠ 41 → jKs s s1 → jfr jMks X Y → K9 109 [.ref 145, .int (nI i), .int (nI (V i)), .int (nI wd.toNat)] [] Y 0 0 := by
      intro q wd Y s1 f1 hq1 hq2 h1 fq fa hf1 hq43 hq41 ks1 g1
      have p1 := hp.fr g1 jmk_lo
      refine kw_aload_n hB M_plain_109 rfl ?_
      refine kw_iconst hB M_plain_110 (v := nI 3) (by decide) ?_
      refine km_put hB M_plain_111 h1.c f_M_132 jw_M_18 (by decide) rfl rfl rfl ?_
      obtain ⟨h2, g2⟩ := h1.put (s' := upd s1 18 (nI 3))
      have p2 := p1.fr g2 jmk_lo
      generalize Y.set 145 (jMo (upd s1 18 (nI 3))) = Y2 at h2 g2 p2
      refine kw_aload_n hB M_plain_114 rfl ?_
      refine kw_aload_n hB M_plain_115 rfl ?_
      refine kw_getf hB M_plain_116 f_M_16 h2.c rfl ?_
      refine kw_iload_n hB M_plain_119 rfl ?_
      refine kn_iald hB M_plain_120 p2.2.2.1 rfl (by omega) (by decide) ?_
      rw [l3]
      refine km_put hB M_plain_121 h2.c f_M_123 jw_M_19 (by decide) rfl rfl rfl ?_
      obtain ⟨h3, g3⟩ := h2.put (s' := upd (upd s1 18 (nI 3)) 19 (nI (A i)))
      have p3 := p2.fr g3 jmk_lo
      generalize Y2.set 145 (jMo (upd (upd s1 18 (nI 3)) 19 (nI (A i)))) = Y3 at h3 g3 p3
      have ks3 : jKs s (upd (upd s1 18 (nI 3)) 19 (nI (A i))) := (ks1.up (by decide)).up (by decide)
      have g13 := (g1.tr g2).tr g3
      have t140 : K9 140 [.ref 145, .int (nI i), .int (nI (V i)), .int (nI wd.toNat)] [.int (nI q), .ref 145] Y3 0 0 := by
        refine km_put hB M_plain_140 h3.c f_M_155 jw_M_20 (by decide) rfl rfl rfl ?_
        obtain ⟨h4, g4⟩ := h3.put (s' := upd (upd (upd s1 18 (nI 3)) 19 (nI (A i))) 20 (nI q))
        generalize Y3.set 145 (jMo (upd (upd (upd s1 18 (nI 3)) 19 (nI (A i))) 20 (nI q))) = Y4 at h4 g4
        have ks4 : jKs s (upd (upd (upd s1 18 (nI 3)) 19 (nI (A i))) 20 (nI q)) := ks3.up (by decide)
        have g14 := g13.tr g4
        have hl4 := g14.1
        have hmk := w_M_make l D g (to := V i) (L := jThn (nw (A i)) (jAtm 6 (nw (B i)))) h4 (fun st gd tb he => ⟨_, _, _, _, jRu_THEN l D g (p := A i) (q := q) (by rw [pk_un (by decide), pk_un (by decide), pk_us]) (by rw [pk_un (by decide), pk_us]) (pk_us ..) (by omega) (by omega) hq43 hq41 (he (A i) _ (by omega) fa) (he q _ hq43 fq) (jAtm_le (by decide)), rfl⟩) (by omega) (by omega)
        refine kw_aload_n hB M_plain_143 rfl ?_
        refine kw_iload_n hB M_plain_144 rfl ?_
        refine kw_callV hB M_plain_145 s_M_213 im_M_make se_M_make h4.c rfl rfl (As := [.int (nI (V i))]) (hmk) rfl (by decide) (Nat.le_of_ble_eq_true rfl) (by omega) (by omega) (fun r X1 hq hl => ?_)
        obtain ⟨rfl, s5, h5, ks5, g5⟩ := hq
        refine kw_goto hB M_plain_148 ?_
        exact fin _ _ _ s5 f1 _ g14 ks4 hf1 h5 ks5 g5
      refine kw_aload_n hB M_plain_124 rfl ?_
      refine kw_iload_n hB M_plain_125 rfl ?_
      refine kn_if_eq hB M_plain_126 (by cases wd <;> decide) (fun z => ?_) (fun z => ?_)
      · refine kw_aload_n hB M_plain_134 rfl ?_
        refine kw_getf hB M_plain_135 f_M_19 h3.c rfl ?_
        refine kw_iload_n hB M_plain_138 rfl ?_
        refine kn_iald hB M_plain_139 p3.2.2.2.1 rfl (by omega) (by decide) ?_
        rw [l4, ← hq2 (jb_f z)]
        exact t140
      · refine kw_bipush hB M_plain_129 (v := nI 42) (by decide) ?_
        refine kw_goto hB M_plain_131 ?_
        rw [← hq1 (jb_t z)]
        exact t140
    refine kw_aload_n hB M_plain_71 rfl ?_
    refine kw_getf hB M_plain_72 f_M_37 h.c rfl ?_
    refine kw_aload_n hB M_plain_75 rfl ?_
    refine kw_getf hB M_plain_76 f_M_19 h.c rfl ?_
    refine kw_iload_n hB M_plain_79 rfl ?_
    refine kn_iald hB M_plain_80 hp.2.2.2.1 rfl (by omega) (by decide) ?_
    rw [l4]
    refine kn_iald hB M_plain_81 htr.2.1 rfl (by omega) (by decide) ?_
    rw [aB.2.1]
    refine kw_bipush hB M_plain_82 (v := nI 6) (by decide) ?_
    refine kn_icmp_le hB M_plain_84 (by omega) (by decide) (fun z => ?_) (fun z => ?_)
    · refine kw_iconst hB M_plain_91 (v := nI 0) (by decide) ?_
      refine kw_istore_n hB M_plain_92 rfl (by decide) rfl ?_
      refine kw_iload_n hB M_plain_93 rfl ?_
      refine kn_if_eq hB M_plain_94 (by decide) (fun _ => ?_) (fun w => absurd rfl w)
      exact join (B i) false X s f (fun w => (by cases w)) (fun _ => rfl) h (by unfold jAtm; rw [if_pos z]; exact fB) fA (fun _ _ _ => rfl) (by omega) (by omega) (jKs.rf s) (jfr.rf _ _)
    · refine kw_iconst hB M_plain_87 (v := nI 1) (by decide) ?_
      refine kw_goto hB M_plain_88 ?_
      refine kw_istore_n hB M_plain_92 rfl (by decide) rfl ?_
      refine kw_iload_n hB M_plain_93 rfl ?_
      refine kn_if_eq hB M_plain_94 (by decide) (fun w => absurd w (by decide)) (fun _ => ?_)
      refine kw_aload_n hB M_plain_97 rfl ?_
      refine kw_aload_n hB M_plain_98 rfl ?_
      refine kw_getf hB M_plain_99 f_M_19 h.c rfl ?_
      refine kw_iload_n hB M_plain_102 rfl ?_
      refine kn_iald hB M_plain_103 hp.2.2.2.1 rfl (by omega) (by decide) ?_
      rw [l4]
      refine kw_bipush hB M_plain_104 (v := nI 42) (by decide) ?_
      refine kw_callV hB M_plain_106 s_M_222 im_M_widen se_M_widen h.c rfl rfl (As := [.int (nI (B i)), .int (nI 42)]) (w_M_widen l D g (to := 42) h (by omega) (by omega) (by decide) (by decide) fB) rfl (by decide) (Nat.le_of_ble_eq_true rfl) (by omega) (by omega) (fun r X1 hq hl => ?_)
      obtain ⟨rfl, s1, f1, h1, hf1, ks1, g1⟩ := hq
      refine join 42 true X1 s1 f1 (fun _ => rfl) (fun w => (by cases w)) h1 ?_ ?_ (fun c c1 c2 => by rw [hf1 c c1, jup_ne c2]) (by decide) (by decide) ks1 g1
      · rw [hf1 42 (by decide), jup_self]; unfold jAtm; rw [if_neg (by omega)]
      · rw [hf1 (A i) (by omega), jup_ne (by omega)]; exact fA
  · -- APPLY
    have k3 : K i = 3 := by omega
    obtain ⟨a5, b3⟩ := mA k3
    have fA := hN (A i) a5
    obtain ⟨st, gd, tb, htr, hte⟩ := h.tr
    have aA := hte (A i) _ (by omega) fA
    have hA24 := aA.1.2.2.1
    have hch : jCh1 nw (K i) (A i) (B i) = jMk (jFn (B i) (if B i = 0 then nw (A i) else jAtm 8 (nw (A i)))) := by unfold jCh1; rw [if_neg k0, if_neg k1, if_neg k2]
    rw [hch] at fin
    have app : ∀ (q : Nat) (wd : Bool) (Y : ja_H) (s1 : Nat → Int32) (f1 : Nat → Option jLan), (wd = true → q = 42) → (wd = false → q = A i) → jMe Y s1 f1 → f1 q = some (if B i = 0 then nw (A i) else jAtm 8 (nw (A i))) → (∀ c, c ≠ 41 → c ≠ 42 → f1 c = f c) → q < 43 → q ≠ 41 → jKs s s1 → jfr jMks X Y → K9 198 [.ref 145, .int (nI i), .int (nI (V i)), .int (nI wd.toNat)] [] Y 0 0 := by
      intro q wd Y s1 f1 hq1 hq2 h1 fq hf1 hq43 hq41 ks1 g1
      have p1 := hp.fr g1 jmk_lo
      refine kw_aload_n hB M_plain_198 rfl ?_
      refine kw_aload_n hB M_plain_199 rfl ?_
      refine kw_getf hB M_plain_200 f_M_19 h1.c rfl ?_
      refine kw_iload_n hB M_plain_203 rfl ?_
      refine kn_iald hB M_plain_204 p1.2.2.2.1 rfl (by omega) (by decide) ?_
      rw [l4]
      refine km_put hB M_plain_205 h1.c f_M_132 jw_M_18 (by decide) rfl rfl rfl ?_
      obtain ⟨h2, g2⟩ := h1.put (s' := upd s1 18 (nI (B i)))
      have p2 := p1.fr g2 jmk_lo
      generalize Y.set 145 (jMo (upd s1 18 (nI (B i)))) = Y2 at h2 g2 p2
      have g12 := g1.tr g2
      have t224 : K9 224 [.ref 145, .int (nI i), .int (nI (V i)), .int (nI wd.toNat)] [.int (nI q), .ref 145] Y2 0 0 := by
        refine km_put hB M_plain_224 h2.c f_M_123 jw_M_19 (by decide) rfl rfl rfl ?_
        obtain ⟨h4, g4⟩ := h2.put (s' := upd (upd s1 18 (nI (B i))) 19 (nI q))
        generalize Y2.set 145 (jMo (upd (upd s1 18 (nI (B i))) 19 (nI q))) = Y4 at h4 g4
        have ks4 : jKs s (upd (upd s1 18 (nI (B i))) 19 (nI q)) := (ks1.up (by decide)).up (by decide)
        have g14 := g12.tr g4
        have hl4 := g14.1
        have hmk := w_M_make l D g (to := V i) (L := jMk (jFn (B i) (if B i = 0 then nw (A i) else jAtm 8 (nw (A i))))) h4 (fun st gd tb he => by
          by_cases hb0 : B i = 0
          · rw [if_pos hb0] at fq
            refine ⟨_, _, _, _, jRu_GUARD l D g (p := q) (by rw [pk_un (by decide), pk_us, hb0]) (pk_us ..) hq43 hq41 (he q _ hq43 fq), ?_⟩
            rw [if_pos hb0, hb0]
            exact jMk_congr (fun w _ => by unfold jFn; rw [if_pos rfl])
          · rw [if_neg hb0] at fq
            refine ⟨_, _, _, _, jRu_FN l D g (p := q) (f := B i) (by omega) (by rw [pk_un (by decide), pk_us]) (pk_us ..) hq43 hq41 (he q _ hq43 fq) (jAtm_le (by decide)), ?_⟩
            rw [if_neg hb0]
            exact jFn_mk (he q _ hq43 fq).1 (jAtm_le (by decide)) (by omega)) (by omega) (by omega)
        refine kw_aload_n hB M_plain_227 rfl ?_
        refine kw_iload_n hB M_plain_228 rfl ?_
        refine kw_callV hB M_plain_229 s_M_213 im_M_make se_M_make h4.c rfl rfl (As := [.int (nI (V i))]) (hmk) rfl (by decide) (Nat.le_of_ble_eq_true rfl) (by omega) (by omega) (fun r X1 hq hl => ?_)
        obtain ⟨rfl, s5, h5, ks5, g5⟩ := hq
        exact fin _ _ _ s5 f1 _ g14 ks4 hf1 h5 ks5 g5
      refine kw_aload_n hB M_plain_208 rfl ?_
      refine kw_iload_n hB M_plain_209 rfl ?_
      refine kn_if_eq hB M_plain_210 (by cases wd <;> decide) (fun z => ?_) (fun z => ?_)
      · refine kw_aload_n hB M_plain_218 rfl ?_
        refine kw_getf hB M_plain_219 f_M_16 h2.c rfl ?_
        refine kw_iload_n hB M_plain_222 rfl ?_
        refine kn_iald hB M_plain_223 p2.2.2.1 rfl (by omega) (by decide) ?_
        rw [l3, ← hq2 (jb_f z)]
        exact t224
      · refine kw_bipush hB M_plain_213 (v := nI 42) (by decide) ?_
        refine kw_goto hB M_plain_215 ?_
        rw [← hq1 (jb_t z)]
        exact t224
    have narrow : (B i = 0 ∨ (nw (A i)).1 ≤ 8) → K9 180 [.ref 145, .int (nI i), .int (nI (V i)), .retAddr 0] [] X 0 0 := by
      intro hz
      refine kw_iconst hB M_plain_180 (v := nI 0) (by decide) ?_
      refine kw_istore_n hB M_plain_181 rfl (by decide) rfl ?_
      refine kw_iload_n hB M_plain_182 rfl ?_
      refine kn_if_eq hB M_plain_183 (by decide) (fun _ => ?_) (fun w => absurd rfl w)
      refine app (A i) false X s f (fun w => (by cases w)) (fun _ => rfl) h ?_ (fun _ _ _ => rfl) (by omega) (by omega) (jKs.rf s) (jfr.rf _ _)
      by_cases hb0 : B i = 0
      · rw [if_pos hb0]; exact fA
      · rw [if_neg hb0]; unfold jAtm; rw [if_pos (hz.resolve_left hb0)]; exact fA
    refine kw_aload_n hB M_plain_151 rfl ?_
    refine kw_getf hB M_plain_152 f_M_19 h.c rfl ?_
    refine kw_iload_n hB M_plain_155 rfl ?_
    refine kn_iald hB M_plain_156 hp.2.2.2.1 rfl (by omega) (by decide) ?_
    rw [l4]
    refine kn_if_eq hB M_plain_157 (by omega) (fun z => narrow (Or.inl z)) (fun hb0 => ?_)
    refine kw_aload_n hB M_plain_160 rfl ?_
    refine kw_getf hB M_plain_161 f_M_37 h.c rfl ?_
    refine kw_aload_n hB M_plain_164 rfl ?_
    refine kw_getf hB M_plain_165 f_M_16 h.c rfl ?_
    refine kw_iload_n hB M_plain_168 rfl ?_
    refine kn_iald hB M_plain_169 hp.2.2.1 rfl (by omega) (by decide) ?_
    rw [l3]
    refine kn_iald hB M_plain_170 htr.2.1 rfl (by omega) (by decide) ?_
    rw [aA.2.1]
    refine kw_bipush hB M_plain_171 (v := nI 8) (by decide) ?_
    refine kn_icmp_le hB M_plain_173 (by omega) (by decide) (fun z => narrow (Or.inr z)) (fun z => ?_)
    refine kw_iconst hB M_plain_176 (v := nI 1) (by decide) ?_
    refine kw_goto hB M_plain_177 ?_
    refine kw_istore_n hB M_plain_181 rfl (by decide) rfl ?_
    refine kw_iload_n hB M_plain_182 rfl ?_
    refine kn_if_eq hB M_plain_183 (by decide) (fun w => absurd w (by decide)) (fun _ => ?_)
    refine kw_aload_n hB M_plain_186 rfl ?_
    refine kw_aload_n hB M_plain_187 rfl ?_
    refine kw_getf hB M_plain_188 f_M_16 h.c rfl ?_
    refine kw_iload_n hB M_plain_191 rfl ?_
    refine kn_iald hB M_plain_192 hp.2.2.1 rfl (by omega) (by decide) ?_
    rw [l3]
    refine kw_bipush hB M_plain_193 (v := nI 42) (by decide) ?_
    refine kw_callV hB M_plain_195 s_M_222 im_M_widen se_M_widen h.c rfl rfl (As := [.int (nI (A i)), .int (nI 42)]) (w_M_widen l D g (to := 42) h (by omega) (by omega) (by decide) (by decide) fA) rfl (by decide) (Nat.le_of_ble_eq_true rfl) (by omega) (by omega) (fun r X1 hq hl => ?_)
    obtain ⟨rfl, s1, f1, h1, hf1, ks1, g1⟩ := hq
    refine app 42 true X1 s1 f1 (fun _ => rfl) (fun w => (by cases w)) h1 ?_ (fun c c1 c2 => by rw [hf1 c c1, jup_ne c2]) (by decide) (by decide) ks1 g1
    rw [hf1 42 (by decide), jup_self, if_neg hb0]; unfold jAtm; rw [if_neg (by omega)]
end JMA2
