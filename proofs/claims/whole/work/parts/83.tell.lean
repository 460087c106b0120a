-- the model: classOf, another, tell
theorem jb_xor (a b : Nat) : nI a ^^^ nI b = nI (a ^^^ b) := by
  apply Int32.toBitVec_inj.mp
  show BitVec.ofNat 32 a ^^^ BitVec.ofNat 32 b = BitVec.ofNat 32 (a ^^^ b)
  apply BitVec.eq_of_getLsbD_eq
  intro i hi
  simp [BitVec.getLsbD_xor, BitVec.getLsbD_ofNat, Nat.testBit_xor, hi]
/-- the sign of a key: how e words end from it -/
def jsi (nxt : Nat → Nat → Nat) (acc : Nat → Bool) (W : Nat → List Nat) : Nat → Nat → Nat
  | 0, _ => 0
  | e + 1, k => jsi nxt acc W e k ||| (acc (jkr nxt k (W e))).toNat * 2 ^ e
theorem jsi_lt (nxt : Nat → Nat → Nat) (acc : Nat → Bool) (W : Nat → List Nat) (k : Nat) : ∀ e, jsi nxt acc W e k < 2 ^ e
  | 0 => (by decide : (0 : Nat) < 1)
  | e + 1 => by
    have h1 := jsi_lt nxt acc W k e
    rw [jsi]
    refine Nat.or_lt_two_pow (Nat.lt_of_lt_of_le h1 (Nat.pow_le_pow_right (by decide) (by omega))) ?_
    rw [Nat.pow_succ]
    have := Nat.pow_pos (n := e) (show 0 < 2 by decide)
    cases acc (jkr nxt k (W e)) <;> simp <;> omega
theorem jsi_bit (nxt : Nat → Nat → Nat) (acc : Nat → Bool) (W : Nat → List Nat) (k : Nat) : ∀ e j, j < e → (jsi nxt acc W e k).testBit j = acc (jkr nxt k (W j))
  | 0, j, h => absurd h (by omega)
  | e + 1, j, h => by
    rw [jsi, Nat.testBit_or]
    by_cases hj : j = e
    · subst hj
      rw [Nat.testBit_lt_two_pow (jsi_lt nxt acc W k j), Bool.false_or]
      cases acc (jkr nxt k (W j))
      · simp
      · simp [Nat.testBit_two_pow_self]
    · rw [jsi_bit nxt acc W k e j (by omega)]
      have : ((acc (jkr nxt k (W e))).toNat * 2 ^ e).testBit j = false := by
        cases acc (jkr nxt k (W e))
        · simp
        · rw [show true.toNat * 2 ^ e = 2 ^ e by simp]; exact Nat.testBit_two_pow_of_ne (fun z => hj z.symm)
      rw [this, Bool.or_false]
theorem jsi_eq {nxt : Nat → Nat → Nat} {acc : Nat → Bool} {W : Nat → List Nat} {k k' : Nat} {e : Nat} : jsi nxt acc W e k = jsi nxt acc W e k' ↔ ∀ j, j < e → acc (jkr nxt k (W j)) = acc (jkr nxt k' (W j)) := by
  constructor
  · intro h j hj
    rw [← jsi_bit nxt acc W k e j hj, ← jsi_bit nxt acc W k' e j hj, h]
  · intro h
    apply Nat.eq_of_testBit_eq
    intro j
    by_cases hj : j < e
    · rw [jsi_bit _ _ _ _ _ _ hj, jsi_bit _ _ _ _ _ _ hj]; exact h j hj
    · rw [jb_one (jsi_lt nxt acc W k e) hj, jb_one (jsi_lt nxt acc W k' e) hj]
theorem jsi_congr {nxt : Nat → Nat → Nat} {acc : Nat → Bool} {W W' : Nat → List Nat} {k : Nat} : ∀ e, (∀ j, j < e → W j = W' j) → jsi nxt acc W e k = jsi nxt acc W' e k
  | 0, _ => rfl
  | e + 1, h => by rw [jsi, jsi, jsi_congr e (fun j hj => h j (by omega)), h e (by omega)]
/-- the classes found: their signs, and a key of each -/
def jCk (nxt : Nat → Nat → Nat) (acc : Nat → Bool) (W : Nat → List Nat) (e n : Nat) (key : Nat → Nat) (m : Nat) (rp : Nat → Nat) (cs ct : Nat → Int32) : Prop :=
  m ≤ 25 ∧ (∀ c, c < m → ct c = nI (rp c) ∧ cs c = nI (jsi nxt acc W e (rp c)) ∧ ∃ i, i < n ∧ rp c = key i) ∧ ∀ c c', c < m → c' < m → jsi nxt acc W e (rp c) = jsi nxt acc W e (rp c') → c = c'
section JMT
variable (l : Launch) (D : va_G) (g : Nat × Nat) {X : ja_H}
set_option maxHeartbeats 4000000 in
set_option maxRecDepth 100000 in
theorem c_M_classOf {m k : Nat} {s st gd tb li se el er cs ct : Nat → Int32} (h : jEr X s st gd tb li se el er cs ct) (hm : s 32 = nI m) (hm25 : m ≤ 25) (hk : k < 1536) :
    AMet l D g 0 0 0 m_M_classOf [.ref 145, .int (nI k)] X (fun r X' => (∃ c, c < m ∧ cs c = se k ∧ (∀ c', c' < c → cs c' ≠ se k) ∧ r = some (.int (nI c)) ∧ X' = X) ∨ ((∀ c, c < m → cs c ≠ se k) ∧ (m < 25 → r = some (.int (nI m)) ∧ jEr X' (upd s 32 (nI (m + 1))) st gd tb li se el er (upd cs m (se k)) (upd ct m (nI k)) ∧ jfr [145, 164, 165] X X') ∧ (m = 25 → r = some (.int (nI 24)) ∧ X' = X))) := by
  refine ja_metK (by decide) rfl (Nat.le_of_ble_eq_true rfl) fun K hB hF => ?_
  have loop : ∀ p c, c + p = m → (∀ c', c' < c → cs c' ≠ se k) → K 2 [.ref 145, .int (nI k), .int (nI c)] [] X 0 0 := by
    intro p
    induction p with
    | zero =>
      intro c hc hno
      refine kw_iload_n hB M_classOf_2 rfl ?_
      refine kw_aload_n hB M_classOf_3 rfl ?_
      refine kw_getf hB M_classOf_4 f_M_186 h.1 rfl ?_
      rw [hm]
      refine kn_icmp_ge hB M_classOf_7 (by omega) (by omega) (fun _ => ?_) (fun hz => absurd hz (by omega))
      refine kw_aload_n hB M_classOf_33 rfl ?_
      refine kw_getf hB M_classOf_34 f_M_186 h.1 rfl ?_
      refine kw_bipush hB M_classOf_37 (v := nI 25) (by decide) ?_
      rw [hm]
      refine kn_icmp_ge hB M_classOf_39 (by omega) (by decide) (fun h25 => ?_) (fun h25 => ?_)
      · refine kw_aload_n hB M_classOf_77 rfl ?_
        refine kw_getf hB M_classOf_78 f_M_186 h.1 rfl ?_
        rw [hm]
        refine kw_iconst hB M_classOf_81 (v := nI 1) (by decide) ?_
        refine kn_isub hB M_classOf_82 (by omega) ?_
        refine kw_iret hF rfl M_classOf_83 (Or.inr ⟨fun c' hc' => hno c' (by omega), fun z => by omega, fun z => ⟨by rw [show m - 1 = 24 by omega], rfl⟩⟩) (by simp)
      · refine kw_aload_n hB M_classOf_42 rfl ?_
        refine kw_getf hB M_classOf_43 f_M_65 h.1 rfl ?_
        refine kw_aload_n hB M_classOf_46 rfl ?_
        refine kw_getf hB M_classOf_47 f_M_186 h.1 rfl ?_
        refine kw_aload_n hB M_classOf_50 rfl ?_
        refine kw_getf hB M_classOf_51 f_M_56 h.1 rfl ?_
        refine kw_iload_n hB M_classOf_54 rfl ?_
        rw [hm]
        refine kn_iald hB M_classOf_55 h.2.2.2.2.2.1 rfl hk (by decide) ?_
        refine kn_iast hB M_classOf_56 h.2.2.2.2.2.2.2.2.1 rfl (by omega) (by decide) ?_
        have g1 := h.s_cs (f' := upd cs m (se k))
        have f1 : jfr [145, 164, 165] X _ := (jset_fr X 164 (.inl (0, 26, .inl (upd cs m (se k))))).mono (fun j hj => by rw [List.mem_singleton.mp hj]; decide)
        generalize X.set 164 (.inl (0, 26, .inl (upd cs m (se k)))) = Y1 at g1 f1
        refine kw_aload_n hB M_classOf_57 rfl ?_
        refine kw_getf hB M_classOf_58 f_M_68 g1.1 rfl ?_
        refine kw_aload_n hB M_classOf_61 rfl ?_
        refine kw_getf hB M_classOf_62 f_M_186 g1.1 rfl ?_
        refine kw_iload_n hB M_classOf_65 rfl ?_
        rw [hm]
        refine kn_iast hB M_classOf_66 g1.2.2.2.2.2.2.2.2.2 rfl (by omega) (by decide) ?_
        have g2 := g1.s_ct (f' := upd ct m (nI k))
        have f2 := f1.tr ((jset_fr Y1 165 (.inl (0, 26, .inl (upd ct m (nI k))))).mono (T := [145, 164, 165]) (fun j hj => by rw [List.mem_singleton.mp hj]; decide))
        generalize Y1.set 165 (.inl (0, 26, .inl (upd ct m (nI k)))) = Y2 at g2 f2
        refine kw_aload_n hB M_classOf_67 rfl ?_
        refine kw_dup hB M_classOf_68 rfl ?_
        refine kw_getf hB M_classOf_69 f_M_186 g2.1 rfl ?_
        rw [hm]
        refine kw_iconst hB M_classOf_72 (v := nI 1) (by decide) ?_
        refine kn_iadd hB M_classOf_73 ?_
        refine km_put hB M_classOf_74 g2.1 f_M_186 jw_M_32 (by decide) rfl rfl rfl ?_
        have g3 := g2.s_s (f' := upd s 32 (nI (m + 1)))
        have f3 := f2.tr ((jset_fr Y2 145 (jMo (upd s 32 (nI (m + 1))))).mono (T := [145, 164, 165]) (fun j hj => by rw [List.mem_singleton.mp hj]; decide))
        generalize Y2.set 145 (jMo (upd s 32 (nI (m + 1)))) = Y3 at g3 f3
        refine kw_aload_n hB M_classOf_77 rfl ?_
        refine kw_getf hB M_classOf_78 f_M_186 g3.1 rfl ?_
        rw [pk_us]
        refine kw_iconst hB M_classOf_81 (v := nI 1) (by decide) ?_
        refine kn_isub hB M_classOf_82 (by omega) ?_
        refine kw_iret hF rfl M_classOf_83 (Or.inr ⟨fun c' hc' => hno c' (by omega), fun _ => ⟨by rw [show m + 1 - 1 = m by omega], g3, f3⟩, fun z => by omega⟩) (by have := f3.1; omega)
    | succ p ih =>
      intro c hc hno
      refine kw_iload_n hB M_classOf_2 rfl ?_
      refine kw_aload_n hB M_classOf_3 rfl ?_
      refine kw_getf hB M_classOf_4 f_M_186 h.1 rfl ?_
      rw [hm]
      refine kn_icmp_ge hB M_classOf_7 (by omega) (by omega) (fun hz => absurd hz (by omega)) (fun _ => ?_)
      refine kw_aload_n hB M_classOf_10 rfl ?_
      refine kw_getf hB M_classOf_11 f_M_65 h.1 rfl ?_
      refine kw_iload_n hB M_classOf_14 rfl ?_
      refine kn_iald hB M_classOf_15 h.2.2.2.2.2.2.2.2.1 rfl (by omega) (by decide) ?_
      refine kw_aload_n hB M_classOf_16 rfl ?_
      refine kw_getf hB M_classOf_17 f_M_56 h.1 rfl ?_
      refine kw_iload_n hB M_classOf_20 rfl ?_
      refine kn_iald hB M_classOf_21 h.2.2.2.2.2.1 rfl hk (by decide) ?_
      refine kw_icmp_ne hB M_classOf_22 (fun hne => ?_) (fun heq => ?_)
      · refine kn_iinc hB M_classOf_27 rfl (by decide) rfl ?_
        refine kw_goto hB M_classOf_30 ?_
        exact ih (c + 1) (by omega) (fun c' hc' => by
          by_cases z : c' = c
          · subst z; exact hne
          · exact hno c' (by omega))
      · refine kw_iload_n hB M_classOf_25 rfl ?_
        refine kw_iret hF rfl M_classOf_26 (Or.inl ⟨c, by omega, heq, hno, rfl, rfl⟩) (by simp)
  refine kw_iconst hB M_classOf_0 (v := nI 0) (by decide) ?_
  refine kw_istore_n hB M_classOf_1 rfl (by decide) rfl ?_
  exact loop m 0 (by omega) (fun c' hc' => absurd hc' (by omega))
set_option maxHeartbeats 8000000 in
set_option maxRecDepth 100000 in
theorem c_M_another {V : Nat → Prop} {fi n m e : Nat} {nxt : Nat → Nat → Nat} {acc : Nat → Bool} {key rp : Nat → Nat} {W : Nat → List Nat} {s0 s st gd tb li se el er cs ct : Nat → Int32} (h : jEr X s st gd tb li se el er cs ct) (hR : jRu l D g V fi nxt acc s0 st gd tb) (hs : ∀ j, 18 ≤ j → j ≤ 25 → s j = s0 j) (hn : s 27 = nI n) (hm : s 32 = nI m) (he : s 29 = nI e) (he24 : e ≤ 25) (hx : jRx V fi nxt (8 * n) n key) (hli : ∀ i, i < n → li i = nI (key i)) (hse : ∀ i, i < n → se (key i) = nI (jsi nxt acc W e (key i))) (hC : jCk nxt acc W e n key m rp cs ct) (hcov : ∀ i, i < n → ∃ c, c < m ∧ jsi nxt acc W e (rp c) = jsi nxt acc W e (key i)) :
    AMet l D g 4 0 0 m_M_another [.ref 145] X (fun r X' => (r = some (.int (nI 0)) ∧ X' = X ∧ ∀ i, i < n → ∃ c, c < m ∧ jsi nxt acc W e (rp c) = jsi nxt acc W e (key i) ∧ ∀ x, 1 ≤ x → x ≤ 8 → jsi nxt acc W e (nxt (key i) x) = jsi nxt acc W e (nxt (rp c) x)) ∨ (r = some (.int (nI 1)) ∧ ∃ i c x b, i < n ∧ c < m ∧ 1 ≤ x ∧ x ≤ 8 ∧ b < e ∧ jsi nxt acc W e (rp c) = jsi nxt acc W e (key i) ∧ (jsi nxt acc W e (nxt (key i) x)).testBit b ≠ (jsi nxt acc W e (nxt (rp c) x)).testBit b ∧ jEr X' s st gd tb li se (upd el e (nI x)) (upd er e (nI b)) cs ct ∧ jfr [162, 163] X X')) := by
  obtain ⟨v0, v1, v2, hX⟩ := hR
  obtain ⟨-, hk2, hk3⟩ := hX X s st gd tb h.tr hs (fun _ _ => rfl) (fun _ _ => rfl) (fun _ _ => rfl)
  have hn15 := hx.le v2
  obtain ⟨c1, c2, c3⟩ := hC
  have clo : ∀ i x, i < n → 1 ≤ x → x ≤ 8 → ∃ j, j < n ∧ key j = nxt (key i) x := fun i x hi h1 h8 => by
    obtain ⟨j, j1, j2⟩ := hx.2.2.2.2.1 (8 * i + (x - 1)) (by omega)
    rw [show (8 * i + (x - 1)) / 8 = i by omega, show (8 * i + (x - 1)) % 8 + 1 = x by omega] at j2
    exact ⟨j, j1, j2⟩
  have slt : ∀ k, jsi nxt acc W e k < 2 ^ 25 := fun k => Nat.lt_of_lt_of_le (jsi_lt nxt acc W k e) (Nat.pow_le_pow_right (by decide) he24)
  have sen : ∀ i x, i < n → 1 ≤ x → x ≤ 8 → se (nxt (key i) x) = nI (jsi nxt acc W e (nxt (key i) x)) := fun i x hi h1 h8 => by
    obtain ⟨j, j1, j2⟩ := clo i x hi h1 h8
    rw [← j2]; exact hse j j1
  refine ja_metK (by decide) rfl (Nat.le_of_ble_eq_true rfl) fun K hB hF => ?_
  have outer : ∀ p i (b c d f : Value), i + p = n → (∀ i', i' < i → ∃ c, c < m ∧ jsi nxt acc W e (rp c) = jsi nxt acc W e (key i') ∧ ∀ x, 1 ≤ x → x ≤ 8 → jsi nxt acc W e (nxt (key i') x) = jsi nxt acc W e (nxt (rp c) x)) → K 2 [.ref 145, .int (nI i), b, c, d, f] [] X 0 0 := by
    intro p
    induction p with
    | zero =>
      intro i b c d f hi hall
      refine kw_iload_n hB M_another_2 rfl ?_
      refine kw_aload_n hB M_another_3 rfl ?_
      refine kw_getf hB M_another_4 f_M_174 h.1 rfl ?_
      rw [hn]
      refine kn_icmp_ge hB M_another_7 (by omega) (by omega) (fun _ => ?_) (fun z => absurd z (by omega))
      refine kw_iconst hB M_another_123 (v := nI 0) (by decide) ?_
      refine kw_zret hF rfl (by first | rfl | decide) M_another_124 ?_ (by first | (simp [jLs_len]; done) | (simp [*]; done))
      exact Or.inl ⟨rfl, rfl, fun i' hi' => hall i' (by omega)⟩
    | succ p ih =>
      intro i b c d f hi hall
      have hin : i < n := by omega
      have hVi := hx.2.2.1 i hin
      refine kw_iload_n hB M_another_2 rfl ?_
      refine kw_aload_n hB M_another_3 rfl ?_
      refine kw_getf hB M_another_4 f_M_174 h.1 rfl ?_
      rw [hn]
      refine kn_icmp_ge hB M_another_7 (by omega) (by omega) (fun z => absurd z (by omega)) (fun _ => ?_)
      refine kw_aload_n hB M_another_10 rfl ?_
      refine kw_getf hB M_another_11 f_M_68 h.1 rfl ?_
      refine kw_aload_n hB M_another_14 rfl ?_
      refine kw_aload_n hB M_another_15 rfl ?_
      refine kw_getf hB M_another_16 f_M_53 h.1 rfl ?_
      refine kw_iload_n hB M_another_19 rfl ?_
      refine kn_iald hB M_another_20 h.2.2.2.2.1 rfl (by omega) (by decide) ?_
      rw [hli i hin]
      refine kw_callV hB M_another_21 s_M_189 im_M_classOf se_M_classOf h.1 rfl rfl (As := [.int (nI (key i))]) (c_M_classOf l D g h hm c1 (v2 _ hVi)) rfl (by decide) (Nat.le_of_ble_eq_true rfl) (by omega) (by omega) (fun r X1 hq hl => ?_)
      rcases hq with ⟨cc, hcc, hce, -, rfl, hxe⟩ | ⟨hno, -⟩
      rotate_left
      · obtain ⟨cc, hcc, hce⟩ := hcov i hin
        exact absurd (by rw [(c2 cc hcc).2.1, hce, hse i hin]) (hno cc hcc)
      obtain rfl := hxe.symm
      obtain ⟨d1, d2, i', hi', d3⟩ := c2 cc hcc
      have hsig : jsi nxt acc W e (rp cc) = jsi nxt acc W e (key i) := by
        rw [d2, hse i hin] at hce
        exact (nI_eq (by have := slt (rp cc); omega) (by have := slt (key i); omega)).mp hce
      refine kn_iald hB M_another_24 h.2.2.2.2.2.2.2.2.2 rfl (by omega) (by decide) ?_
      rw [d1]
      have inner : ∀ q t (u w : Value), t + q = 8 → (∀ x, 1 ≤ x → x ≤ t → jsi nxt acc W e (nxt (key i) x) = jsi nxt acc W e (nxt (rp cc) x)) → K 28 [.ref 145, .int (nI i), .int (nI (rp cc)), .int (nI (t + 1)), u, w] [] X 0 0 := by
        intro q
        induction q with
        | zero =>
          intro t u w ht hx8
          refine kw_iload_n hB M_another_28 rfl ?_
          refine kw_bipush hB M_another_29 (v := nI 8) (by decide) ?_
          refine kn_icmp_gt hB M_another_31 (by omega) (by decide) (fun _ => ?_) (fun z => absurd z (by omega))
          refine kn_iinc hB M_another_117 rfl (by decide) rfl ?_
          refine kw_goto hB M_another_120 ?_
          exact ih (i + 1) _ _ _ _ (by omega) (fun i2 hi2 => by
            by_cases z : i2 = i
            · subst z; exact ⟨cc, hcc, hsig, fun x h1 h8 => hx8 x h1 (by omega)⟩
            · exact hall i2 (by omega))
        | succ q ihq =>
          intro t u w ht hx8
          have hVr : V (rp cc) := by rw [d3]; exact hx.2.2.1 i' hi'
          refine kw_iload_n hB M_another_28 rfl ?_
          refine kw_bipush hB M_another_29 (v := nI 8) (by decide) ?_
          refine kn_icmp_gt hB M_another_31 (by omega) (by decide) (fun z => absurd z (by omega)) (fun _ => ?_)
          refine kw_aload_n hB M_another_34 rfl ?_
          refine kw_getf hB M_another_35 f_M_56 h.1 rfl ?_
          refine kw_aload_n hB M_another_38 rfl ?_
          refine kw_aload_n hB M_another_39 rfl ?_
          refine kw_getf hB M_another_40 f_M_53 h.1 rfl ?_
          refine kw_iload_n hB M_another_43 rfl ?_
          refine kn_iald hB M_another_44 h.2.2.2.2.1 rfl (by omega) (by decide) ?_
          rw [hli i hin]
          refine kw_iload_n hB M_another_45 rfl ?_
          refine kw_callV hB M_another_46 s_M_180 im_M_next se_M_next h.1 rfl rfl (As := [.int (nI (key i)), .int (nI (t + 1))]) (hk3 (key i) (t + 1) hVi (by omega) (by omega)) rfl (by decide) (Nat.le_of_ble_eq_true rfl) (by omega) (by omega) (fun r X1 hq hl => ?_)
          obtain ⟨rfl, hxeq⟩ := hq
          obtain rfl := hxeq.symm
          refine kn_iald hB M_another_49 h.2.2.2.2.2.1 rfl (v2 _ (v1 _ _ hVi (by omega) (by omega))) (by decide) ?_
          rw [sen i (t + 1) hin (by omega) (by omega)]
          refine kw_aload_n hB M_another_50 rfl ?_
          refine kw_getf hB M_another_51 f_M_56 h.1 rfl ?_
          refine kw_aload_n hB M_another_54 rfl ?_
          refine kw_iload_n hB M_another_55 rfl ?_
          refine kw_iload_n hB M_another_56 rfl ?_
          refine kw_callV hB M_another_57 s_M_180 im_M_next se_M_next h.1 rfl rfl (As := [.int (nI (rp cc)), .int (nI (t + 1))]) (hk3 (rp cc) (t + 1) hVr (by omega) (by omega)) rfl (by decide) (Nat.le_of_ble_eq_true rfl) (by omega) (by omega) (fun r X1 hq hl => ?_)
          obtain ⟨rfl, hxeq⟩ := hq
          obtain rfl := hxeq.symm
          refine kn_iald hB M_another_60 h.2.2.2.2.2.1 rfl (v2 _ (v1 _ _ hVr (by omega) (by omega))) (by decide) ?_
          have e2 := sen i' (t + 1) hi' (by omega) (by omega)
          rw [← d3] at e2
          rw [e2]
          have s1 := slt (nxt (key i) (t + 1))
          have s2 := slt (nxt (rp cc) (t + 1))
          refine kw_ixor hB M_another_61 ?_
          rw [jb_xor]
          have sx : jsi nxt acc W e (nxt (key i) (t + 1)) ^^^ jsi nxt acc W e (nxt (rp cc) (t + 1)) < 2 ^ 25 := Nat.xor_lt_two_pow s1 s2
          refine kw_istore hB M_another_62 (by decide) rfl ?_
          refine kw_iload hB M_another_64 rfl ?_
          refine kn_if_eq hB M_another_66 (by omega) (fun hz => ?_) (fun hz => ?_)
          · refine kn_iinc hB M_another_111 rfl (by decide) rfl ?_
            refine kw_goto hB M_another_114 ?_
            have heq : jsi nxt acc W e (nxt (key i) (t + 1)) = jsi nxt acc W e (nxt (rp cc) (t + 1)) := by
              apply Nat.eq_of_testBit_eq
              intro j
              have := congrArg (fun z => Nat.testBit z j) hz
              simp only [Nat.testBit_xor, Nat.zero_testBit] at this
              revert this
              cases (jsi nxt acc W e (nxt (key i) (t + 1))).testBit j <;> cases (jsi nxt acc W e (nxt (rp cc) (t + 1))).testBit j <;> simp
            exact ihq (t + 1) _ _ (by omega) (fun x h1 h2 => by
              by_cases z : x = t + 1
              · subst z; exact heq
              · exact hx8 x h1 (by omega))
          · generalize hdd : jsi nxt acc W e (nxt (key i) (t + 1)) ^^^ jsi nxt acc W e (nxt (rp cc) (t + 1)) = dd at sx hz
            obtain ⟨bb, hbb, hlow⟩ := pk_least (fun j => dd.testBit j = true) (Classical.byContradiction fun hno => hz (by
              apply Nat.eq_of_testBit_eq
              intro j
              rw [Nat.zero_testBit]
              cases hb : dd.testBit j with
              | false => rfl
              | true => exact absurd ⟨j, hb⟩ hno))
            have hb25 : bb < 25 := Classical.byContradiction fun hno => by
              rw [jb_one sx hno] at hbb; cases hbb
            have find : ∀ r j, j + r = bb → K 72 [.ref 145, .int (nI i), .int (nI (rp cc)), .int (nI (t + 1)), .int (nI dd), .int (nI j)] [] X 0 0 := by
              intro r
              induction r with
              | zero =>
                intro j hj
                have e : j = bb := by omega
                subst e
                refine kw_iload hB M_another_72 rfl ?_
                refine kw_iload hB M_another_74 rfl ?_
                refine kw_ishr hB M_another_76 ?_
                rw [jb_shr (by omega) (by omega)]
                refine kw_iconst hB M_another_77 (v := nI 1) (by decide) ?_
                refine kw_iand hB M_another_78 ?_
                rw [jb_and, Nat.and_one_is_mod, jb_bit, hbb]
                refine kn_if_ne hB M_another_79 (by decide) (fun _ => ?_) (fun z => absurd z (by decide))
                have hbe : j < e := Classical.byContradiction fun hno => by
                  have b1 := jb_one (jsi_lt nxt acc W (nxt (key i) (t + 1)) e) hno
                  have b2 := jb_one (jsi_lt nxt acc W (nxt (rp cc) (t + 1)) e) hno
                  rw [← hdd, Nat.testBit_xor, b1, b2] at hbb
                  cases hbb
                refine kw_aload_n hB M_another_88 rfl ?_
                refine kw_getf hB M_another_89 f_M_59 h.1 rfl ?_
                refine kw_aload_n hB M_another_92 rfl ?_
                refine kw_getf hB M_another_93 f_M_183 h.1 rfl ?_
                refine kw_iload_n hB M_another_96 rfl ?_
                rw [he]
                refine kn_iast hB M_another_97 h.2.2.2.2.2.2.1 rfl (by omega) (by decide) ?_
                have g1 := h.s_el (f' := upd el e (nI (t + 1)))
                have f1 : jfr [162, 163] X _ := (jset_fr X 162 (.inl (0, 26, .inl (upd el e (nI (t + 1)))))).mono (fun j hj => by rw [List.mem_singleton.mp hj]; decide)
                generalize X.set 162 (.inl (0, 26, .inl (upd el e (nI (t + 1))))) = Y1 at g1 f1
                refine kw_aload_n hB M_another_98 rfl ?_
                refine kw_getf hB M_another_99 f_M_62 g1.1 rfl ?_
                refine kw_aload_n hB M_another_102 rfl ?_
                refine kw_getf hB M_another_103 f_M_183 g1.1 rfl ?_
                refine kw_iload hB M_another_106 rfl ?_
                rw [he]
                refine kn_iast hB M_another_108 g1.2.2.2.2.2.2.2.1 rfl (by omega) (by decide) ?_
                have g2 := g1.s_er (f' := upd er e (nI j))
                have f2 := f1.tr ((jset_fr Y1 163 (.inl (0, 26, .inl (upd er e (nI j))))).mono (T := [162, 163]) (fun j hj => by rw [List.mem_singleton.mp hj]; decide))
                refine kw_iconst hB M_another_109 (v := nI 1) (by decide) ?_
                refine kw_zret hF rfl (by decide) M_another_110 (Or.inr ⟨rfl, i, cc, t + 1, j, hin, hcc, by omega, by omega, hbe, hsig, fun z => ?_, g2, f2⟩) f2.1
                rw [← hdd, Nat.testBit_xor, z, Bool.xor_self] at hbb
                cases hbb
              | succ r ihr =>
                intro j hj
                have hjf : dd.testBit j = false := by
                  cases hb : dd.testBit j with
                  | false => rfl
                  | true => exact absurd hb (hlow j (by omega))
                refine kw_iload hB M_another_72 rfl ?_
                refine kw_iload hB M_another_74 rfl ?_
                refine kw_ishr hB M_another_76 ?_
                rw [jb_shr (by omega) (by omega)]
                refine kw_iconst hB M_another_77 (v := nI 1) (by decide) ?_
                refine kw_iand hB M_another_78 ?_
                rw [jb_and, Nat.and_one_is_mod, jb_bit, hjf]
                refine kn_if_ne hB M_another_79 (by decide) (fun z => absurd rfl z) (fun _ => ?_)
                refine kn_iinc hB M_another_82 rfl (by decide) rfl ?_
                refine kw_goto hB M_another_85 ?_
                exact ihr (j + 1) (by omega)
            refine kw_iconst hB M_another_69 (v := nI 0) (by decide) ?_
            refine kw_istore hB M_another_70 (by decide) rfl ?_
            exact find bb 0 (by omega)
      refine kw_istore_n hB M_another_25 rfl (by decide) rfl ?_
      refine kw_iconst hB M_another_26 (v := nI 1) (by decide) ?_
      refine kw_istore_n hB M_another_27 rfl (by decide) rfl ?_
      exact inner 8 0 _ _ (by omega) (fun x h1 h2 => absurd h2 (by omega))
  refine kw_iconst hB M_another_0 (v := nI 0) (by decide) ?_
  refine kw_istore_n hB M_another_1 rfl (by decide) rfl ?_
  exact outer n 0 _ _ _ _ (by omega) (fun i' hi' => absurd hi' (by omega))
end JMT
