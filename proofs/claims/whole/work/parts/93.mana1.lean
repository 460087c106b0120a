-- the model: same, none, all, widen, copySet, unite
/-- what of the scalars an analysis leaves alone -/
def jKs (s s' : Nat → Int32) : Prop := ∀ j, j < 18 ∨ 38 ≤ j → s' j = s j
theorem jKs.rf (s : Nat → Int32) : jKs s s := fun _ _ => rfl
theorem jKs.tr {s s' s'' : Nat → Int32} (h : jKs s s') (h2 : jKs s' s'') : jKs s s'' := fun j hj => (h2 j hj).trans (h j hj)
theorem jKs.up {s s' : Nat → Int32} (h : jKs s s') {j : Nat} {v : Int32} (hj : 18 ≤ j ∧ j < 38) : jKs s (upd s' j v) := fun i hi => by rw [pk_un (by omega)]; exact h i hi
/-- what makes languages, and the languages in the slots -/
def jMe (X : ja_H) (s : Nat → Int32) (f : Nat → Option jLan) : Prop := ∃ st gd tb li se el er cs ct, jEr X s st gd tb li se el er cs ct ∧ jTe st gd tb f
theorem jMe.c {X : ja_H} {s : Nat → Int32} {f : Nat → Option jLan} (h : jMe X s f) : X[145]? = some (jMo s) := by
  obtain ⟨_, _, _, _, _, _, _, _, _, h, -⟩ := h
  exact h.1
theorem jMe.put {X : ja_H} {s : Nat → Int32} {f : Nat → Option jLan} (h : jMe X s f) {s' : Nat → Int32} : jMe (X.set 145 (jMo s')) s' f ∧ jfr jMks X (X.set 145 (jMo s')) := by
  obtain ⟨st, gd, tb, li, se, el, er, cs, ct, h, ht⟩ := h
  exact ⟨⟨st, gd, tb, li, se, el, er, cs, ct, h.s_s, ht⟩, (jset_fr X 145 _).mono (fun k hk => by rw [List.mem_singleton.mp hk]; decide)⟩
theorem jMe.tr {X : ja_H} {s : Nat → Int32} {f : Nat → Option jLan} (h : jMe X s f) : ∃ st gd tb, jTr X s st gd tb ∧ jTe st gd tb f := by
  obtain ⟨st, gd, tb, li, se, el, er, cs, ct, h, ht⟩ := h
  exact ⟨st, gd, tb, h.tr, ht⟩
theorem jMe.of {X Y : ja_H} {s s' : Nat → Int32} {f f' : Nat → Option jLan} (h : jMe X s f) (hf : jfr [145, 155, 156, 157] X Y) {st gd tb : Nat → Int32} (ht : jTr Y s' st gd tb) (h2 : jTe st gd tb f') : jMe Y s' f' := by
  obtain ⟨_, _, _, li, se, el, er, cs, ct, h, -⟩ := h
  exact ⟨st, gd, tb, li, se, el, er, cs, ct, h.of hf ht, h2⟩
theorem jMe.sub {X : ja_H} {s : Nat → Int32} {f f' : Nat → Option jLan} (h : jMe X s f) (he : ∀ a L, a < 43 → f' a = some L → f a = some L) : jMe X s f' := by
  obtain ⟨st, gd, tb, li, se, el, er, cs, ct, h, ht⟩ := h
  exact ⟨st, gd, tb, li, se, el, er, cs, ct, h, fun a L ha hL => ht a L ha (he a L ha hL)⟩
theorem jMe.fr {S : List Nat} {X Y : ja_H} {s : Nat → Int32} {f : Nat → Option jLan} (h : jMe X s f) (hf : jfr S X Y) (hS : ∀ k ∈ S, k ∉ jMks) : jMe Y s f := by
  obtain ⟨st, gd, tb, li, se, el, er, cs, ct, h, ht⟩ := h
  refine ⟨st, gd, tb, li, se, el, er, cs, ct, h.fr hf (fun k hk => ?_), ht⟩
  have := hS k hk
  simp only [jMks, List.mem_cons, List.not_mem_nil, or_false, not_or] at this
  obtain ⟨a1, a2, a3, a4, a5, a6, a7, a8, a9, a10⟩ := this
  exact ⟨a1, a2, a3, a4, a5, a6, a7, a8, a9, a10⟩
section JMA1
variable (l : Launch) (D : va_G) (g : Nat × Nat) {X : ja_H} {s : Nat → Int32} {f : Nat → Option jLan}
theorem w_M_make {to : Nat} {L : jLan} (h : jMe X s f) (hR : ∀ st gd tb, jTe st gd tb f → ∃ V fi nxt acc, jRu l D g V fi nxt acc s st gd tb ∧ jMk (fun w => acc (jkr nxt fi w)) = L) (hto : to < 43) (hto41 : to ≠ 41) : AMet l D g 6 0 0 m_M_make [.ref 145, .int (nI to)] X (fun r X' => r = none ∧ ∃ s', jMe X' s' (va_up (va_up f 41 (some L)) to (some L)) ∧ jKs s s' ∧ jfr jMks X X') := by
  obtain ⟨st, gd, tb, li, se, el, er, cs, ct, h, ht⟩ := h
  obtain ⟨V, fi, nxt, acc, r1, r2⟩ := hR st gd tb ht
  refine (c_M_make l D g h r1 ht hto hto41).post (fun r X' hq => ?_)
  obtain ⟨q1, s', st', gd', tb', li', se', el', er', cs', ct', q2, q3, q4, q5⟩ := hq
  rw [r2] at q3
  exact ⟨q1, s', ⟨st', gd', tb', li', se', el', er', cs', ct', q2, q3⟩, fun j hj => q4 j (by omega) (by omega) (by omega) (by omega) (by omega), q5⟩
theorem w_M_copy {a b : Nat} {L : jLan} (h : jMe X s f) (ha : a < 43) (hb : b < 43) (hL : f a = some L) : AMet l D g 0 0 0 m_M_copy [.ref 145, .int (nI a), .int (nI b)] X (fun r X' => r = none ∧ jMe X' s (va_up f b (some L)) ∧ jfr jMks X X') := by
  obtain ⟨st, gd, tb, ht, he⟩ := h.tr
  refine (c_M_copy l D g ht he ha hb hL).post (fun r X' hq => ?_)
  obtain ⟨q1, st', gd', tb', q2, q3, -, -, -, q4⟩ := hq
  exact ⟨q1, h.of (q4.mono (fun k hk => by simp only [List.mem_cons, List.not_mem_nil, or_false] at hk ⊢; omega)) q2 q3, q4.mono (by decide)⟩
theorem w_M_empty {a : Nat} {L : jLan} (h : jMe X s f) (ha : a < 43) (hL : f a = some L) : AMet l D g 0 0 0 m_M_empty [.ref 145, .int (nI a)] X (fun r X' => r = some (.int (nI (decide (L = jEmp)).toNat)) ∧ X' = X) := by
  obtain ⟨st, gd, tb, ht, he⟩ := h.tr
  exact c_M_empty l D g ht (he a L ha hL) ha
set_option maxHeartbeats 4000000 in
set_option maxRecDepth 100000 in
theorem w_M_same {a b : Nat} {A B : jLan} (h : jMe X s f) (ha : a < 43) (hb : b < 43) (hA : f a = some A) (hBL : f b = some B) : AMet l D g 0 0 0 m_M_same [.ref 145, .int (nI a), .int (nI b)] X (fun r X' => r = some (.int (nI (decide (A = B)).toNat)) ∧ X' = X) := by
  obtain ⟨st, gd, tb, ht, he⟩ := h.tr
  obtain ⟨a1, a2, a3, a4⟩ := he a A ha hA
  obtain ⟨b1, b2, b3, b4⟩ := he b B hb hBL
  have A24 := a1.2.2.1
  have B24 := b1.2.2.1
  have gA : A.2.1 < 2 ^ 24 := Nat.lt_of_lt_of_le a1.2.2.2.1 (Nat.pow_le_pow_right (by decide) A24)
  have gB : B.2.1 < 2 ^ 24 := Nat.lt_of_lt_of_le b1.2.2.2.1 (Nat.pow_le_pow_right (by decide) B24)
  have xl : ∀ i, i < 8 * A.1 → jXf A i < 24 := fun i hi => Nat.lt_of_lt_of_le (a1.2.2.2.2.1 i hi) A24
  have yl : ∀ i, i < 8 * B.1 → jXf B i < 24 := fun i hi => Nat.lt_of_lt_of_le (b1.2.2.2.2.1 i hi) B24
  refine ja_metK (by decide) rfl (Nat.le_of_ble_eq_true rfl) fun K hB hF => ?_
  have iff : A = B ↔ A.1 = B.1 ∧ A.2.1 = B.2.1 ∧ ∀ i, i < 8 * A.1 → jXf A i = jXf B i := by
    constructor
    · rintro rfl; exact ⟨rfl, rfl, fun _ _ => rfl⟩
    · rintro ⟨e1, e2, e3⟩
      refine a1.ext b1 (fun w hw => ?_)
      unfold jAc
      rw [e2, jgo_congr (m := A.1) (fun t ht => a1.2.2.2.2.1 t ht) e3 w 0 a1.2.1 hw]
  have done : ∀ (q : Bool) (u : Value), q = decide (A = B) → K 98 [.ref 145, .int (nI a), .int (nI b), .int (nI q.toNat), u] [] X 0 0 := by
    intro q u hq
    refine kw_iload_n hB M_same_98 rfl ?_
    refine kw_zret hF rfl (by cases q <;> decide) M_same_99 ⟨by rw [hq], rfl⟩ (by simp)
  have loop : ∀ p k (q : Bool), k + p = 8 * A.1 → (q = true ↔ (A.1 = B.1 ∧ A.2.1 = B.2.1) ∧ ∀ i, i < k → jXf A i = jXf B i) → K 39 [.ref 145, .int (nI a), .int (nI b), .int (nI q.toNat), .int (nI k)] [] X 0 0 := by
    intro p
    induction p with
    | zero =>
      intro k q hk hq
      refine kw_iload hB M_same_39 rfl ?_
      refine kw_bipush hB M_same_41 (v := nI 8) (by decide) ?_
      refine kw_aload_n hB M_same_43 rfl ?_
      refine kw_getf hB M_same_44 f_M_37 ht.1 rfl ?_
      refine kw_iload_n hB M_same_47 rfl ?_
      refine kn_iald hB M_same_48 ht.2.1 rfl ha (by decide) ?_
      rw [a2]
      refine kn_imul hB M_same_49 ?_
      refine kn_icmp_ge hB M_same_50 (by omega) (by omega) (fun _ => ?_) (fun z => absurd z (by omega))
      refine done q _ ?_
      rw [Bool.eq_iff_iff, hq, decide_eq_true_iff, iff]
      exact ⟨fun z => ⟨z.1.1, z.1.2, fun i hi => z.2 i (by omega)⟩, fun z => ⟨⟨z.1, z.2.1⟩, fun i hi => z.2.2 i (by omega)⟩⟩
    | succ p ih =>
      intro k q hk hq
      refine kw_iload hB M_same_39 rfl ?_
      refine kw_bipush hB M_same_41 (v := nI 8) (by decide) ?_
      refine kw_aload_n hB M_same_43 rfl ?_
      refine kw_getf hB M_same_44 f_M_37 ht.1 rfl ?_
      refine kw_iload_n hB M_same_47 rfl ?_
      refine kn_iald hB M_same_48 ht.2.1 rfl ha (by decide) ?_
      rw [a2]
      refine kn_imul hB M_same_49 ?_
      refine kn_icmp_ge hB M_same_50 (by omega) (by omega) (fun z => absurd z (by omega)) (fun _ => ?_)
      refine kw_iload_n hB M_same_53 rfl ?_
      refine kn_if_eq hB M_same_54 (by cases q <;> decide) (fun z => ?_) (fun z => ?_)
      · refine done q _ ?_
        rw [jb_f z]
        refine (decide_eq_false (fun e => ?_)).symm
        obtain ⟨e1, e2, e3⟩ := iff.mp e
        have := hq.mpr ⟨⟨e1, e2⟩, fun i hi => e3 i (by omega)⟩
        rw [jb_f z] at this
        cases this
      · obtain ⟨⟨e1, e2⟩, e3⟩ := hq.mp (jb_t z)
        have x1 := xl k (by omega)
        have y1 := yl k (by omega)
        refine kw_aload_n hB M_same_57 rfl ?_
        refine kw_getf hB M_same_58 f_M_43 ht.1 rfl ?_
        refine kw_sipush hB M_same_61 (v := nI 192) (by decide) ?_
        refine kw_iload_n hB M_same_64 rfl ?_
        refine kn_imul hB M_same_65 ?_
        refine kw_iload hB M_same_66 rfl ?_
        refine kn_iadd hB M_same_68 ?_
        refine kn_bald hB M_same_69 ht.2.2.2 rfl (by omega) (by decide) ?_
        rw [a4 k (by omega)]
        refine kw_aload_n hB M_same_70 rfl ?_
        refine kw_getf hB M_same_71 f_M_43 ht.1 rfl ?_
        refine kw_sipush hB M_same_74 (v := nI 192) (by decide) ?_
        refine kw_iload_n hB M_same_77 rfl ?_
        refine kn_imul hB M_same_78 ?_
        refine kw_iload hB M_same_79 rfl ?_
        refine kn_iadd hB M_same_81 ?_
        refine kn_bald hB M_same_82 ht.2.2.2 rfl (by omega) (by decide) ?_
        rw [b4 k (by omega)]
        have nx : ∀ d : Bool, (d = true ↔ jXf A k = jXf B k) → (d = true ↔ (A.1 = B.1 ∧ A.2.1 = B.2.1) ∧ ∀ i, i < k + 1 → jXf A i = jXf B i) := fun d hd => by
          rw [hd]
          constructor
          · intro zk
            refine ⟨⟨e1, e2⟩, fun i hi => ?_⟩
            by_cases hik : i = k
            · subst hik; exact zk
            · exact e3 i (by omega)
          · intro zz; exact zz.2 k (by omega)
        refine kn_icmp_ne hB M_same_83 (by omega) (by omega) (fun z2 => ?_) (fun z2 => ?_)
        · refine kw_iconst hB M_same_90 (v := nI 0) (by decide) ?_
          refine kw_istore_n hB M_same_91 rfl (by decide) rfl ?_
          refine kn_iinc hB M_same_92 rfl (by decide) rfl ?_
          refine kw_goto hB M_same_95 ?_
          exact ih (k + 1) false (by omega) (nx false ⟨fun w => (by cases w), fun w => absurd w z2⟩)
        · refine kw_iconst hB M_same_86 (v := nI 1) (by decide) ?_
          refine kw_goto hB M_same_87 ?_
          refine kw_istore_n hB M_same_91 rfl (by decide) rfl ?_
          refine kn_iinc hB M_same_92 rfl (by decide) rfl ?_
          refine kw_goto hB M_same_95 ?_
          exact ih (k + 1) true (by omega) (nx true ⟨fun _ => z2, fun _ => rfl⟩)
  have start : ∀ q : Bool, (q = true ↔ A.1 = B.1 ∧ A.2.1 = B.2.1) → K 35 [.ref 145, .int (nI a), .int (nI b), .retAddr 0, .retAddr 0] [.int (nI q.toNat)] X 0 0 := by
    intro q hq
    refine kw_istore_n hB M_same_35 rfl (by decide) rfl ?_
    refine kw_iconst hB M_same_36 (v := nI 0) (by decide) ?_
    refine kw_istore hB M_same_37 (by decide) rfl ?_
    exact loop (8 * A.1) 0 q (by omega) ⟨fun z => ⟨hq.mp z, fun i hi => absurd hi (by omega)⟩, fun z => hq.mpr z.1⟩
  refine kw_aload_n hB M_same_0 rfl ?_
  refine kw_getf hB M_same_1 f_M_37 ht.1 rfl ?_
  refine kw_iload_n hB M_same_4 rfl ?_
  refine kn_iald hB M_same_5 ht.2.1 rfl ha (by decide) ?_
  rw [a2]
  refine kw_aload_n hB M_same_6 rfl ?_
  refine kw_getf hB M_same_7 f_M_37 ht.1 rfl ?_
  refine kw_iload_n hB M_same_10 rfl ?_
  refine kn_iald hB M_same_11 ht.2.1 rfl hb (by decide) ?_
  rw [b2]
  refine kn_icmp_ne hB M_same_12 (by omega) (by omega) (fun z => ?_) (fun z => ?_)
  · refine kw_iconst hB M_same_34 (v := nI 0) (by decide) ?_
    exact start false ⟨fun w => (by cases w), fun w => absurd w.1 z⟩
  · refine kw_aload_n hB M_same_15 rfl ?_
    refine kw_getf hB M_same_16 f_M_40 ht.1 rfl ?_
    refine kw_iload_n hB M_same_19 rfl ?_
    refine kn_iald hB M_same_20 ht.2.2.1 rfl ha (by decide) ?_
    rw [a3]
    refine kw_aload_n hB M_same_21 rfl ?_
    refine kw_getf hB M_same_22 f_M_40 ht.1 rfl ?_
    refine kw_iload_n hB M_same_25 rfl ?_
    refine kn_iald hB M_same_26 ht.2.2.1 rfl hb (by decide) ?_
    rw [b3]
    refine kn_icmp_ne hB M_same_27 (by omega) (by omega) (fun z2 => ?_) (fun z2 => ?_)
    · refine kw_iconst hB M_same_34 (v := nI 0) (by decide) ?_
      exact start false ⟨fun w => (by cases w), fun w => absurd w.2 z2⟩
    · refine kw_iconst hB M_same_30 (v := nI 1) (by decide) ?_
      refine kw_goto hB M_same_31 ?_
      exact start true ⟨fun _ => ⟨z, z2⟩, fun _ => rfl⟩
set_option maxHeartbeats 4000000 in
set_option maxRecDepth 100000 in
theorem w_M_none {a : Nat} (h : jMe X s f) (ha : a < 43) : AMet l D g 0 0 0 m_M_none [.ref 145, .int (nI a)] X (fun r X' => r = none ∧ jMe X' s (va_up f a (some jEmp)) ∧ jfr jMks X X') := by
  obtain ⟨st, gd, tb, ht, he⟩ := h.tr
  refine ja_metK (by decide) rfl (Nat.le_of_ble_eq_true rfl) fun K hB hF => ?_
  have fS : ∀ (Y : ja_H) (p : Nat) (c : ja_C), p ∈ [155, 156, 157] → jfr [155, 156, 157] Y (Y.set p c) := fun Y p c hp => (jset_fr Y p c).mono (fun k hk => by rw [List.mem_singleton.mp hk]; exact hp)
  have loop : ∀ p k (tb' : Nat → Int32) (Y : ja_H), k + p = 192 → jTr Y s (upd st a (nI 1)) (upd gd a (nI 0)) tb' → (∀ i, i < 192 * a ∨ 192 * a + 192 ≤ i → tb' i = tb i) → (∀ i, i < k → tb' (192 * a + i) = nI 0) → jfr [155, 156, 157] X Y → K 16 [.ref 145, .int (nI a), .int (nI k)] [] Y 0 0 := by
    intro p
    induction p with
    | zero =>
      intro k tb' Y hk e1 e2 e3 hf
      refine kw_iload_n hB M_none_16 rfl ?_
      refine kw_sipush hB M_none_17 (v := nI 192) (by decide) ?_
      refine kn_icmp_ge hB M_none_20 (by omega) (by decide) (fun _ => ?_) (fun z => absurd z (by omega))
      refine kw_vret hF rfl M_none_42 ⟨rfl, h.of (hf.mono (fun k hk => by simp only [List.mem_cons, List.not_mem_nil, or_false] at hk ⊢; omega)) e1 (fun a' L ha' hL => ?_), hf.mono (by decide)⟩ hf.1
      by_cases z : a' = a
      · subst z
        rw [jup_self] at hL
        cases hL
        refine ⟨jEmp_ok, pk_us .., pk_us .., fun i hi => ?_⟩
        have hi : i < 8 := hi
        rw [e3 i (by omega)]
        have : ∀ i, i < 8 → nI 0 = nI (jXf jEmp i) := by decide
        exact this i hi
      · rw [jup_ne z] at hL
        obtain ⟨q1, q2, q3, q4⟩ := he a' L ha' hL
        have := q1.2.2.1
        refine ⟨q1, by rw [pk_un z]; exact q2, by rw [pk_un z]; exact q3, fun i hi => ?_⟩
        rw [e2 _ (by omega)]; exact q4 i hi
    | succ p ih =>
      intro k tb' Y hk e1 e2 e3 hf
      refine kw_iload_n hB M_none_16 rfl ?_
      refine kw_sipush hB M_none_17 (v := nI 192) (by decide) ?_
      refine kn_icmp_ge hB M_none_20 (by omega) (by decide) (fun z => absurd z (by omega)) (fun _ => ?_)
      refine kw_aload_n hB M_none_23 rfl ?_
      refine kw_getf hB M_none_24 f_M_43 e1.1 rfl ?_
      refine kw_sipush hB M_none_27 (v := nI 192) (by decide) ?_
      refine kw_iload_n hB M_none_30 rfl ?_
      refine kn_imul hB M_none_31 ?_
      refine kw_iload_n hB M_none_32 rfl ?_
      refine kn_iadd hB M_none_33 ?_
      refine kw_iconst hB M_none_34 (v := nI 0) (by decide) ?_
      refine kn_bast hB M_none_35 e1.2.2.2 rfl (by omega) (by decide) ?_
      rw [(jnb 0 (by decide)).1]
      refine kn_iinc hB M_none_36 rfl (by decide) rfl ?_
      refine kw_goto hB M_none_39 ?_
      refine ih (k + 1) _ _ (by omega) (e1.s_tb (f' := upd tb' (192 * a + k) (nI 0))) (fun i hi => ?_) (fun i hi => ?_) (hf.tr (fS Y 157 _ (by decide)))
      · rw [pk_un (by omega)]; exact e2 i hi
      · by_cases z : i = k
        · subst z; rw [pk_us]
        · rw [pk_un (by omega)]; exact e3 i (by omega)
  refine kw_aload_n hB M_none_0 rfl ?_
  refine kw_getf hB M_none_1 f_M_37 ht.1 rfl ?_
  refine kw_iload_n hB M_none_4 rfl ?_
  refine kw_iconst hB M_none_5 (v := nI 1) (by decide) ?_
  refine kn_iast hB M_none_6 ht.2.1 rfl ha (by decide) ?_
  have g1 := ht.s_st (f' := upd st a (nI 1))
  have f1 := fS X 155 (.inl (0, 43, .inl (upd st a (nI 1)))) (by decide)
  generalize X.set 155 (.inl (0, 43, .inl (upd st a (nI 1)))) = Y1 at g1 f1
  refine kw_aload_n hB M_none_7 rfl ?_
  refine kw_getf hB M_none_8 f_M_40 g1.1 rfl ?_
  refine kw_iload_n hB M_none_11 rfl ?_
  refine kw_iconst hB M_none_12 (v := nI 0) (by decide) ?_
  refine kn_iast hB M_none_13 g1.2.2.1 rfl ha (by decide) ?_
  have g2 := g1.s_gd (f' := upd gd a (nI 0))
  have f2 := f1.tr (fS Y1 156 (.inl (0, 43, .inl (upd gd a (nI 0)))) (by decide))
  refine kw_iconst hB M_none_14 (v := nI 0) (by decide) ?_
  refine kw_istore_n hB M_none_15 rfl (by decide) rfl ?_
  exact loop 192 0 tb _ (by omega) g2 (fun _ _ => rfl) (fun i hi => absurd hi (by omega)) f2
set_option maxHeartbeats 4000000 in
set_option maxRecDepth 100000 in
theorem w_M_all {to S : Nat} (h : jMe X s f) (hS : S < 256) (hto : to < 43) (hto41 : to ≠ 41) : AMet l D g 7 0 0 m_M_all [.ref 145, .int (nI to), .int (nI (2 * S))] X (fun r X' => r = none ∧ ∃ s', jMe X' s' (va_up (va_up f 41 (some (jAllL S))) to (some (jAllL S))) ∧ jKs s s' ∧ jfr jMks X X') := by
  refine ja_metK (by decide) rfl (Nat.le_of_ble_eq_true rfl) fun K hB hF => ?_
  refine kw_aload_n hB M_all_0 rfl ?_
  refine kw_bipush hB M_all_1 (v := nI 7) (by decide) ?_
  refine km_put hB M_all_3 h.c f_M_132 jw_M_18 (by decide) rfl rfl rfl ?_
  obtain ⟨h1, f1⟩ := h.put (s' := upd s 18 (nI 7))
  generalize X.set 145 (jMo (upd s 18 (nI 7))) = Y1 at h1 f1
  refine kw_aload_n hB M_all_6 rfl ?_
  refine kw_iload_n hB M_all_7 rfl ?_
  refine km_put hB M_all_8 h1.c f_M_164 jw_M_25 (by decide) rfl rfl rfl ?_
  obtain ⟨h2, f2⟩ := h1.put (s' := upd (upd s 18 (nI 7)) 25 (nI (2 * S)))
  generalize Y1.set 145 (jMo (upd (upd s 18 (nI 7)) 25 (nI (2 * S)))) = Y2 at h2 f2
  have ks : jKs s (upd (upd s 18 (nI 7)) 25 (nI (2 * S))) := ((jKs.rf s).up (by decide)).up (by decide)
  have hl0 := (f1.tr f2).1
  refine kw_aload_n hB M_all_11 rfl ?_
  refine kw_iload_n hB M_all_12 rfl ?_
  refine kw_callV hB M_all_13 s_M_213 im_M_make se_M_make h2.c rfl rfl (As := [.int (nI to)]) (w_M_make l D g h2 (fun st gd tb _ => ⟨_, _, _, _, jRu_ALL l D g (by rw [pk_un (by decide), pk_us]) (pk_us ..) hS, jMk_all hS⟩) hto hto41) rfl (by decide) (Nat.le_of_ble_eq_true rfl) (by omega) (by omega) (fun r X1 hq hl => ?_)
  obtain ⟨rfl, s', q1, q2, q3⟩ := hq
  have hl1 := q3.1
  refine kw_vret hF rfl M_all_16 ⟨rfl, s', q1, ks.tr q2, (f1.tr f2).tr q3⟩ (by omega)
set_option maxHeartbeats 4000000 in
set_option maxRecDepth 100000 in
theorem w_M_widen {a to : Nat} {L : jLan} (h : jMe X s f) (ha : a < 43) (ha41 : a ≠ 41) (hto : to < 43) (hto41 : to ≠ 41) (hL : f a = some L) : AMet l D g 8 0 0 m_M_widen [.ref 145, .int (nI a), .int (nI to)] X (fun r X' => r = none ∧ ∃ s' f', jMe X' s' f' ∧ (∀ b, b ≠ 41 → f' b = va_up f to (some (jWid L)) b) ∧ jKs s s' ∧ jfr jMks X X') := by
  refine ja_metK (by decide) rfl (Nat.le_of_ble_eq_true rfl) fun K hB hF => ?_
  refine kw_aload_n hB M_widen_0 rfl ?_
  refine kw_iload_n hB M_widen_1 rfl ?_
  refine kw_callV hB M_widen_2 s_M_216 im_M_empty se_M_empty h.c rfl rfl (As := [.int (nI a)]) (w_M_empty l D g h ha hL) rfl (by decide) (Nat.le_of_ble_eq_true rfl) (by omega) (by omega) (fun r X1 hq hl => ?_)
  obtain ⟨rfl, hxeq⟩ := hq
  obtain rfl := hxeq.symm
  refine kn_if_eq hB M_widen_5 (by cases decide (L = jEmp) <;> decide) (fun z => ?_) (fun z => ?_)
  · have hne : ¬ L = jEmp := of_decide_eq_false (jb_f z)
    refine kw_aload_n hB M_widen_15 rfl ?_
    refine kw_bipush hB M_widen_16 (v := nI 8) (by decide) ?_
    refine km_put hB M_widen_18 h.c f_M_132 jw_M_18 (by decide) rfl rfl rfl ?_
    obtain ⟨h1, f1⟩ := h.put (s' := upd s 18 (nI 8))
    generalize X.set 145 (jMo (upd s 18 (nI 8))) = Y1 at h1 f1
    refine kw_aload_n hB M_widen_21 rfl ?_
    refine kw_iload_n hB M_widen_22 rfl ?_
    refine km_put hB M_widen_23 h1.c f_M_123 jw_M_19 (by decide) rfl rfl rfl ?_
    obtain ⟨h2, f2⟩ := h1.put (s' := upd (upd s 18 (nI 8)) 19 (nI a))
    generalize Y1.set 145 (jMo (upd (upd s 18 (nI 8)) 19 (nI a))) = Y2 at h2 f2
    have ks : jKs s (upd (upd s 18 (nI 8)) 19 (nI a)) := ((jKs.rf s).up (by decide)).up (by decide)
    have f12 := f1.tr f2
    obtain ⟨st, gd, tb, li, se, el, er, cs, ct, e1, e2⟩ := h2
    have hRu := jRu_SAME l D g (s := upd (upd s 18 (nI 8)) 19 (nI a)) (st := st) (gd := gd) (tb := tb) (p := a) (by rw [pk_un (by decide), pk_us]) (pk_us ..) ha ha41 (e2 a L ha hL)
    refine kw_aload_n hB M_widen_26 rfl ?_
    refine kw_callV hB M_widen_27 s_M_200 im_M_reach se_M_reach e1.1 rfl rfl (As := []) (c_M_reach l D g e1 hRu) rfl (by decide) (Nat.le_of_ble_eq_true rfl) (by omega) (by omega) (fun r X1 hq hl => ?_)
    obtain ⟨rfl, n, key, s1, li1, se1, p1, p2, p3, p4, p5, p6, p7, p8⟩ := hq
    have f3 := f12.tr (p8.mono (T := jMks) (by decide))
    refine kw_aload_n hB M_widen_30 rfl ?_
    refine kw_callV hB M_widen_31 s_M_206 im_M_occurring se_M_occurring p1.1 rfl rfl (As := []) (c_M_occurring l D g p1 hRu (fun j h1 h2 => p4 j (by omega) (by omega)) p2 p5 p6) rfl (by decide) (Nat.le_of_ble_eq_true rfl) (by omega) (by omega) (fun r X1 hq hl => ?_)
    obtain ⟨S, se2, rfl, hS, r1, r2⟩ := hq
    have f4 := f3.tr (r2.mono (T := jMks) (by decide))
    have hl4 := f4.1
    have ks1 : jKs s s1 := ks.tr (fun j hj => p4 j (by omega) (by omega))
    have okL := (e2 a L ha hL).1
    have hw : jWid L = jAllL S := by
      unfold jWid
      rw [if_neg hne]
      have : jLet (jAc L) S := ⟨hS.1, fun c hc => (hS.2 c hc).trans ⟨fun ⟨w, w1, w2, w3⟩ => ⟨w, w1, w2, w3⟩, fun ⟨w, w1, w2, w3⟩ => ⟨w, w1, w2, w3⟩⟩⟩
      rw [jSet_of this]
    refine kw_istore_n hB M_widen_34 rfl (by decide) rfl ?_
    refine kw_aload_n hB M_widen_35 rfl ?_
    refine kw_iload_n hB M_widen_36 rfl ?_
    refine kw_iload_n hB M_widen_37 rfl ?_
    refine kw_callV hB M_widen_38 s_M_219 im_M_all se_M_all r1.1 rfl rfl (As := [.int (nI to), .int (nI (2 * S))]) (w_M_all l D g (f := f) ⟨st, gd, tb, li1, se2, el, er, cs, ct, r1, e2⟩ hS.1 hto hto41) rfl (by decide) (Nat.le_of_ble_eq_true rfl) (by omega) (by omega) (fun r X1 hq hl => ?_)
    obtain ⟨rfl, s', q1, q2, q3⟩ := hq
    have hl5 := q3.1
    refine kw_vret hF rfl M_widen_41 ⟨rfl, s', _, q1, fun b hb => ?_, ks1.tr q2, f4.tr q3⟩ (by omega)
    rw [hw]
    by_cases hbt : b = to
    · subst hbt; rw [jup_self, jup_self]
    · rw [jup_ne hbt, jup_ne hbt, jup_ne hb]
  · have he : L = jEmp := of_decide_eq_true (jb_t z)
    refine kw_aload_n hB M_widen_8 rfl ?_
    refine kw_iload_n hB M_widen_9 rfl ?_
    refine kw_iload_n hB M_widen_10 rfl ?_
    refine kw_callV hB M_widen_11 s_M_196 im_M_copy se_M_copy h.c rfl rfl (As := [.int (nI a), .int (nI to)]) (w_M_copy l D g h ha hto hL) rfl (by decide) (Nat.le_of_ble_eq_true rfl) (by omega) (by omega) (fun r X1 hq hl => ?_)
    obtain ⟨rfl, q1, q2⟩ := hq
    refine kw_vret hF rfl M_widen_14 ⟨rfl, s, _, q1, fun b hb => ?_, jKs.rf s, q2⟩ q2.1
    have : jWid L = L := by unfold jWid; rw [if_pos he, he]
    rw [this]
set_option maxHeartbeats 4000000 in
set_option maxRecDepth 100000 in
theorem w_M_copySet {a b : Nat} {N : Nat → jLan} (h : jMe X s f) (ha : a + 5 ≤ 41) (hb : b + 5 ≤ 41) (hab : a + 5 ≤ b ∨ b + 5 ≤ a) (hN : ∀ v, v < 5 → f (a + v) = some (N v)) : AMet l D g 1 0 0 m_M_copySet [.ref 145, .int (nI a), .int (nI b)] X (fun r X' => r = none ∧ ∃ f', jMe X' s f' ∧ (∀ v, v < 5 → f' (b + v) = some (N v)) ∧ (∀ c, c < b ∨ b + 5 ≤ c → f' c = f c) ∧ jfr jMks X X') := by
  refine ja_metK (by decide) rfl (Nat.le_of_ble_eq_true rfl) fun K hB hF => ?_
  have loop : ∀ p v (f1 : Nat → Option jLan) (Y : ja_H), v + p = 5 → jMe Y s f1 → (∀ v', v' < v → f1 (b + v') = some (N v')) → (∀ c, c < b ∨ b + 5 ≤ c → f1 c = f c) → jfr jMks X Y → K 2 [.ref 145, .int (nI a), .int (nI b), .int (nI v)] [] Y 0 0 := by
    intro p
    induction p with
    | zero =>
      intro v f1 Y hv e1 e2 e3 hf
      refine kw_iload_n hB M_copySet_2 rfl ?_
      refine kw_iconst hB M_copySet_3 (v := nI 5) (by decide) ?_
      refine kn_icmp_ge hB M_copySet_4 (by omega) (by decide) (fun _ => ?_) (fun z => absurd z (by omega))
      refine kw_vret hF rfl M_copySet_23 ⟨rfl, f1, e1, fun v' hv' => e2 v' (by omega), e3, hf⟩ hf.1
    | succ p ih =>
      intro v f1 Y hv e1 e2 e3 hf
      refine kw_iload_n hB M_copySet_2 rfl ?_
      refine kw_iconst hB M_copySet_3 (v := nI 5) (by decide) ?_
      refine kn_icmp_ge hB M_copySet_4 (by omega) (by decide) (fun z => absurd z (by omega)) (fun _ => ?_)
      refine kw_aload_n hB M_copySet_7 rfl ?_
      refine kw_iload_n hB M_copySet_8 rfl ?_
      refine kw_iload_n hB M_copySet_9 rfl ?_
      refine kn_iadd hB M_copySet_10 ?_
      refine kw_iload_n hB M_copySet_11 rfl ?_
      refine kw_iload_n hB M_copySet_12 rfl ?_
      refine kn_iadd hB M_copySet_13 ?_
      refine kw_callV hB M_copySet_14 s_M_196 im_M_copy se_M_copy e1.c rfl rfl (As := [.int (nI (a + v)), .int (nI (b + v))]) (w_M_copy l D g e1 (by omega) (by omega) ((e3 (a + v) (by omega)).trans (hN v (by omega)))) rfl (by decide) (Nat.le_of_ble_eq_true rfl) (by omega) (by omega) (fun r X1 hq hl => ?_)
      obtain ⟨rfl, q1, q2⟩ := hq
      refine kn_iinc hB M_copySet_17 rfl (by decide) rfl ?_
      refine kw_goto hB M_copySet_20 ?_
      refine ih (v + 1) _ X1 (by omega) q1 (fun v' hv' => ?_) (fun c hc => ?_) (hf.tr q2)
      · by_cases z : v' = v
        · subst z; rw [jup_self]
        · rw [jup_ne (by omega)]; exact e2 v' (by omega)
      · rw [jup_ne (by omega)]; exact e3 c hc
  refine kw_iconst hB M_copySet_0 (v := nI 0) (by decide) ?_
  refine kw_istore_n hB M_copySet_1 rfl (by decide) rfl ?_
  exact loop 5 0 f X (by omega) h (fun v' hv' => absurd hv' (by omega)) (fun _ _ => rfl) (jfr.rf _ _)
set_option maxHeartbeats 4000000 in
set_option maxRecDepth 100000 in
theorem w_M_unite {b : Nat} {N H : Nat → jLan} (h : jMe X s f) (hb5 : 5 ≤ b) (hb : b + 5 ≤ 41) (hN : ∀ v, v < 5 → f v = some (N v)) (hH : ∀ v, v < 5 → f (b + v) = some (H v)) : AMet l D g 7 0 0 m_M_unite [.ref 145, .int (nI b)] X (fun r X' => r = none ∧ ∃ s' f', jMe X' s' f' ∧ (∀ v, v < 5 → f' v = some (jUni (N v) (H v))) ∧ (∀ c, 5 ≤ c → c ≠ 41 → f' c = f c) ∧ jKs s s' ∧ jfr jMks X X') := by
  refine ja_metK (by decide) rfl (Nat.le_of_ble_eq_true rfl) fun K hB hF => ?_
  have loop : ∀ p v (s1 : Nat → Int32) (f1 : Nat → Option jLan) (Y : ja_H), v + p = 5 → jMe Y s1 f1 → jKs s s1 → (∀ v', v' < v → f1 v' = some (jUni (N v') (H v'))) → (∀ v', v ≤ v' → v' < 5 → f1 v' = some (N v')) → (∀ c, 5 ≤ c → c ≠ 41 → f1 c = f c) → jfr jMks X Y → K 2 [.ref 145, .int (nI b), .int (nI v)] [] Y 0 0 := by
    intro p
    induction p with
    | zero =>
      intro v s1 f1 Y hv e1 ks e2 e3 e4 hf
      refine kw_iload_n hB M_unite_2 rfl ?_
      refine kw_iconst hB M_unite_3 (v := nI 5) (by decide) ?_
      refine kn_icmp_ge hB M_unite_4 (by omega) (by decide) (fun _ => ?_) (fun z => absurd z (by omega))
      refine kw_vret hF rfl M_unite_35 ⟨rfl, s1, f1, e1, fun v' hv' => e2 v' (by omega), e4, ks, hf⟩ hf.1
    | succ p ih =>
      intro v s1 f1 Y hv e1 ks e2 e3 e4 hf
      have fA := e3 v (Nat.le_refl _) (by omega)
      have fB := (e4 (b + v) (by omega) (by omega)).trans (hH v (by omega))
      refine kw_iload_n hB M_unite_2 rfl ?_
      refine kw_iconst hB M_unite_3 (v := nI 5) (by decide) ?_
      refine kn_icmp_ge hB M_unite_4 (by omega) (by decide) (fun z => absurd z (by omega)) (fun _ => ?_)
      refine kw_aload_n hB M_unite_7 rfl ?_
      refine kw_iconst hB M_unite_8 (v := nI 4) (by decide) ?_
      refine km_put hB M_unite_9 e1.c f_M_132 jw_M_18 (by decide) rfl rfl rfl ?_
      obtain ⟨h1, g1⟩ := e1.put (s' := upd s1 18 (nI 4))
      generalize Y.set 145 (jMo (upd s1 18 (nI 4))) = Y1 at h1 g1
      refine kw_aload_n hB M_unite_12 rfl ?_
      refine kw_iload_n hB M_unite_13 rfl ?_
      refine km_put hB M_unite_14 h1.c f_M_123 jw_M_19 (by decide) rfl rfl rfl ?_
      obtain ⟨h2, g2⟩ := h1.put (s' := upd (upd s1 18 (nI 4)) 19 (nI v))
      generalize Y1.set 145 (jMo (upd (upd s1 18 (nI 4)) 19 (nI v))) = Y2 at h2 g2
      refine kw_aload_n hB M_unite_17 rfl ?_
      refine kw_iload_n hB M_unite_18 rfl ?_
      refine kw_iload_n hB M_unite_19 rfl ?_
      refine kn_iadd hB M_unite_20 ?_
      refine km_put hB M_unite_21 h2.c f_M_155 jw_M_20 (by decide) rfl rfl rfl ?_
      obtain ⟨h3, g3⟩ := h2.put (s' := upd (upd (upd s1 18 (nI 4)) 19 (nI v)) 20 (nI (b + v)))
      generalize Y2.set 145 (jMo (upd (upd (upd s1 18 (nI 4)) 19 (nI v)) 20 (nI (b + v)))) = Y3 at h3 g3
      have ks3 : jKs s (upd (upd (upd s1 18 (nI 4)) 19 (nI v)) 20 (nI (b + v))) := ((ks.up (by decide)).up (by decide)).up (by decide)
      have g123 := (g1.tr g2).tr g3
      have hl3 := g123.1
      have hmk := w_M_make l D g (to := v) (L := jUni (N v) (H v)) h3 (fun st gd tb he => ⟨_, _, _, _, jRu_EITHER l D g (p := v) (q := b + v) (by rw [pk_un (by decide), pk_un (by decide), pk_us]) (by rw [pk_un (by decide), pk_us]) (pk_us ..) (by omega) (by omega) (by omega) (by omega) (he v _ (by omega) fA) (he (b + v) _ (by omega) fB), jMk_congr (fun w hw => by
        have oA := (he v _ (by omega) fA).1
        have oB := (he (b + v) _ (by omega) fB).1
        rw [jP_lang oA.2.1 oB.2.1 oB.2.2.1 (fun i hi => oA.2.2.2.2.1 i (by omega)) (fun i hi => oB.2.2.2.2.1 i (by omega)) hw]; rfl)⟩) (by omega) (by omega)
      refine kw_aload_n hB M_unite_24 rfl ?_
      refine kw_iload_n hB M_unite_25 rfl ?_
      refine kw_callV hB M_unite_26 s_M_213 im_M_make se_M_make h3.c rfl rfl (As := [.int (nI v)]) (hmk) rfl (by decide) (Nat.le_of_ble_eq_true rfl) (by omega) (by omega) (fun r X1 hq hl => ?_)
      obtain ⟨rfl, s', q1, q2, q3⟩ := hq
      have hl4 := q3.1
      refine kn_iinc hB M_unite_29 rfl (by decide) rfl ?_
      refine kw_goto hB M_unite_32 ?_
      refine ih (v + 1) s' _ X1 (by omega) q1 (ks3.tr q2) (fun v' hv' => ?_) (fun v' h1 h2 => ?_) (fun c h1 h2 => ?_) ((hf.tr g123).tr q3)
      · by_cases z : v' = v
        · subst z; rw [jup_self]
        · rw [jup_ne z, jup_ne (by omega)]; exact e2 v' (by omega)
      · rw [jup_ne (by omega), jup_ne (by omega)]; exact e3 v' (by omega) h2
      · rw [jup_ne (by omega), jup_ne h2]; exact e4 c h1 h2
  refine kw_iconst hB M_unite_0 (v := nI 0) (by decide) ?_
  refine kw_istore_n hB M_unite_1 rfl (by decide) rfl ?_
  exact loop 5 0 s f X (by omega) h (jKs.rf s) (fun v' hv' => absurd hv' (by omega)) (fun v' _ hv' => hN v' hv') (fun _ _ _ => rfl) (jfr.rf _ _)
end JMA1
