-- Automaton: refine
/-- the kinds of a state and of those that follow it, as one number -/
def jsg (κ δ : Nat → Nat) (i : Nat) : Nat → Nat
  | 0 => κ i
  | m + 1 => jsg κ δ i m * 32 + κ (δ (i * 8 + m))
theorem jsg_lt {κ δ : Nat → Nat} {i n : Nat} (hκ : ∀ j, j < n → κ j < 32) (hi : i < n) (hδ : ∀ a, a < 8 → δ (i * 8 + a) < n) : ∀ m, m ≤ 8 → jsg κ δ i m < 32 ^ (m + 1) := by
  intro m
  induction m with
  | zero => intro _; exact hκ i hi
  | succ m ih =>
    intro hm
    have h1 := ih (by omega)
    have h2 := hκ _ (hδ m (by omega))
    rw [jsg, Nat.pow_succ]
    omega
/-- the states below i are told apart into m kinds by their numbers sg; rep k is the first of kind k -/
def jKd (sg κ rep : Nat → Nat) (i m : Nat) : Prop := (∀ j, j < i → κ j < m ∧ rep (κ j) ≤ j ∧ sg j = sg (rep (κ j))) ∧ (∀ k, k < m → rep k < i ∧ κ (rep k) = k) ∧ (∀ k k', k < k' → k' < m → rep k < rep k' ∧ sg (rep k) ≠ sg (rep k'))
theorem jKd.old {sg κ rep : Nat → Nat} {i m k : Nat} (h : jKd sg κ rep i m) (hk : k < m) (he : sg i = sg (rep k)) : jKd sg (va_up κ i k) rep (i + 1) m := by
  obtain ⟨h1, h2, h3⟩ := h
  refine ⟨fun j hj => ?_, fun k' hk' => ?_, h3⟩
  · by_cases hji : j = i
    · subst hji
      rw [jup_self]
      exact ⟨hk, by have := (h2 k hk).1; omega, he⟩
    · rw [jup_ne hji]; exact h1 j (by omega)
  · obtain ⟨a, b⟩ := h2 k' hk'
    rw [jup_ne (by omega)]
    exact ⟨by omega, b⟩
theorem jKd.new {sg κ rep : Nat → Nat} {i m : Nat} (h : jKd sg κ rep i m) (hn : ∀ k, k < m → sg i ≠ sg (rep k)) : jKd sg (va_up κ i m) (va_up rep m i) (i + 1) (m + 1) := by
  obtain ⟨h1, h2, h3⟩ := h
  refine ⟨fun j hj => ?_, fun k hk => ?_, fun k k' hk hk' => ?_⟩
  · by_cases hji : j = i
    · subst hji
      rw [jup_self, jup_self]
      exact ⟨by omega, Nat.le_refl _, rfl⟩
    · obtain ⟨a, b, c⟩ := h1 j (by omega)
      rw [jup_ne hji, jup_ne (by omega)]
      exact ⟨by omega, b, c⟩
  · by_cases hkm : k = m
    · subst hkm
      rw [jup_self, jup_self]
      exact ⟨by omega, rfl⟩
    · obtain ⟨a, b⟩ := h2 k (by omega)
      rw [jup_ne hkm, jup_ne (by omega)]
      exact ⟨by omega, b⟩
  · by_cases hkm : k' = m
    · subst hkm
      rw [jup_self, jup_ne (by omega)]
      exact ⟨(h2 k hk).1, fun z => hn k hk z.symm⟩
    · rw [jup_ne hkm, jup_ne (by omega)]
      exact h3 k k' hk (by omega)
section JB3
variable (l : Launch) (D : va_G) (g : Nat × Nat) {X : ja_H}
set_option maxHeartbeats 8000000 in
set_option maxRecDepth 100000 in
theorem c_B_refine {b n : Nat} {nx gd ky so en kd fk : Nat → Int32} {lk : Nat → Int64} {κ δ : Nat → Nat} (h : jBr X b (nI n) nx gd ky so en kd fk lk) (hn : n ≤ 1536) (hnx : ∀ s, s < 8 * n → nx s = nI (δ s)) (hδ : ∀ s, s < 8 * n → δ s < n) (hkd : ∀ i, i < n → kd i = nI (κ i)) (hκ : ∀ i, i < n → κ i < 32) :
    AMet l D g 1 0 0 m_B_refine [.ref b] X (fun r X' => jfr (jBS b) X X' ∧ ((∃ (m : Nat) (κ' rep : Nat → Nat) (kd' fk' : Nat → Int32) (lk' : Nat → Int64), r = some (.int (nI m)) ∧ m ≤ 24 ∧ jBr X' b (nI n) nx gd ky so en kd' fk' lk' ∧ (∀ i, i < n → kd' i = nI (κ' i)) ∧ jKd (fun i => jsg κ δ i 8) κ' rep n m) ∨ (∃ (κ' rep : Nat → Nat) (i : Nat) (fk' : Nat → Int32) (lk' : Nat → Int64), r = some (.int (nI 25)) ∧ jBr X' b (nI n) nx gd ky so en kd fk' lk' ∧ i < n ∧ jKd (fun i => jsg κ δ i 8) κ' rep i 24 ∧ ∀ k, k < 24 → jsg κ δ i 8 ≠ jsg κ δ (rep k) 8))) := by
  have hsl : ∀ i, i < n → ∀ m, m ≤ 8 → jsg κ δ i m < 2 ^ 45 := by
    intro i hi m hm
    have h1 := jsg_lt hκ hi (fun a ha => hδ _ (by omega)) m hm
    have h2 : (32 : Nat) ^ (m + 1) ≤ 32 ^ 9 := Nat.pow_le_pow_right (by decide) (by omega)
    have h3 : (32 : Nat) ^ 9 = 2 ^ 45 := by decide
    omega
  refine ja_metK (by decide) rfl (Nat.le_of_ble_eq_true rfl) fun K hB hF => ?_
  have outer : ∀ q i (m : Nat) (κ' rep : Nat → Nat) (fk : Nat → Int32) (lk : Nat → Int64) (Y : ja_H) (u v w : Value), i + q = n → m ≤ 24 → jKd (fun i => jsg κ δ i 8) κ' rep i m → (∀ j, j < i → fk j = nI (κ' j)) → (∀ k, k < m → lk k = lN (jsg κ δ (rep k) 8)) → jBr Y b (nI n) nx gd ky so en kd fk lk → jfr (jBS b) X Y → K 4 [.ref b, .int (nI m), .int (nI i), u, v, w] [] Y 0 0 := by
    intro q
    induction q with
    | zero =>
      intro i m κ' rep fk lk Y u v w hi hm hK hfk hlk hb hf
      refine kw_iload_n hB B_refine_4 rfl ?_
      refine kw_aload_n hB B_refine_5 rfl ?_
      refine kw_getf hB B_refine_6 f_B_48 hb.1 rfl ?_
      refine kn_icmp_ge hB B_refine_9 (by omega) (by omega) (fun hc => ?_) (fun hc => absurd hc (by omega))
      refine kw_aload_n hB B_refine_131 rfl ?_
      refine kw_getf hB B_refine_132 f_B_35 hb.1 rfl ?_
      refine kw_iconst hB B_refine_135 (v := nI 0) (by decide) ?_
      refine kw_aload_n hB B_refine_136 rfl ?_
      refine kw_getf hB B_refine_137 f_B_32 hb.1 rfl ?_
      refine kw_iconst hB B_refine_140 (v := nI 0) (by decide) ?_
      refine kw_aload_n hB B_refine_141 rfl ?_
      refine kw_getf hB B_refine_142 f_B_48 hb.1 rfl ?_
      refine kw_copyi (n := n) (sp := 0) (dp := 0) hB B_refine_145 (jm 628 (by decide +kernel) rfl) hb.2.2.2.2.2.2.2.1 hb.2.2.2.2.2.2.1 rfl rfl (by decide) (by decide) (by omega) (by omega) (fun i hi => rfl) (by decide) (by decide) ?_
      have hb1 := hb.s_kd (f' := va_cpy fk kd 0 0 n)
      have hf1 := hf.tr (jBS_set Y b 6 (.inl (0, 1536, .inl (va_cpy fk kd 0 0 n))) (by decide))
      refine kw_iload_n hB B_refine_148 rfl ?_
      refine kw_iret hF rfl B_refine_149 ?_ (by rw [hf1.1]; rfl)
      refine ⟨hf1, Or.inl ⟨m, κ', rep, _, fk, lk, rfl, hm, hb1, fun j hj => ?_, ?_⟩⟩
      · rw [pk_cpy_in (Nat.zero_le _) (by omega), Nat.zero_add, Nat.sub_zero]
        exact hfk j (by omega)
      · rw [show i = n by omega] at hK; exact hK
    | succ q ih =>
      intro i m κ' rep fk lk Y u v w hi hm hK hfk hlk hb hf
      have hsi := hsl i (by omega) 8 (by omega)
      have put : ∀ (k m2 : Nat) (κ2 rep2 : Nat → Nat) (lk2 : Nat → Int64) (Y2 : ja_H) (u v : Value), k < 24 → m2 ≤ 24 → κ2 = va_up κ' i k → jKd (fun i => jsg κ δ i 8) κ2 rep2 (i + 1) m2 → (∀ k, k < m2 → lk2 k = lN (jsg κ δ (rep2 k) 8)) → jBr Y2 b (nI n) nx gd ky so en kd fk lk2 → jfr (jBS b) X Y2 → K 117 [.ref b, .int (nI m2), .int (nI i), u, v, .int (nI k)] [] Y2 0 0 := by
        intro k m2 κ2 rep2 lk2 Y2 u v hk hm2 hκ2 hK2 hlk2 hb2 hf2
        refine kw_aload_n hB B_refine_117 rfl ?_
        refine kw_getf hB B_refine_118 f_B_35 hb2.1 rfl ?_
        refine kw_iload_n hB B_refine_121 rfl ?_
        refine kw_iload hB B_refine_122 rfl ?_
        refine kn_iast hB B_refine_124 hb2.2.2.2.2.2.2.2.1 rfl (by omega) (by decide) ?_
        have hb3 := hb2.s_fk (f' := upd fk i (nI k))
        have hf3 := hf2.tr (jBS_set Y2 b 7 (.inl (0, 1536, .inl (upd fk i (nI k)))) (by decide))
        refine kn_iinc hB B_refine_125 rfl (by decide) rfl ?_
        refine kw_goto hB B_refine_128 ?_
        refine ih (i + 1) m2 κ2 rep2 _ lk2 _ _ _ _ (by omega) hm2 hK2 (fun j hj => ?_) hlk2 hb3 hf3
        rw [hκ2]
        by_cases hji : j = i
        · subst hji; rw [pk_us, jup_self]
        · rw [pk_un hji, jup_ne hji]; exact hfk j (by omega)
      have found : ∀ k (w : Value), k ≤ m → (∀ k', k' < k → jsg κ δ i 8 ≠ jsg κ δ (rep k') 8) → (k < m → jsg κ δ i 8 = jsg κ δ (rep k) 8) → K 88 [.ref b, .int (nI m), .int (nI i), .long (lN (jsg κ δ i 8)), .retAddr 0, .int (nI k)] [] Y 0 0 := by
        intro k w hk hno hyes
        refine kw_iload hB B_refine_88 rfl ?_
        refine kw_bipush hB B_refine_90 (v := nI 24) (by decide) ?_
        refine kn_icmp_ne hB B_refine_92 (by omega) (by decide) (fun h24 => ?_) (fun h24 => ?_)
        · refine kw_iload hB B_refine_100 rfl ?_
          refine kw_iload_n hB B_refine_102 rfl ?_
          refine kn_icmp_ne hB B_refine_103 (by omega) (by omega) (fun hne => ?_) (fun heq => ?_)
          · exact put k m _ rep lk Y _ _ (by omega) hm rfl (hK.old (by omega) (hyes (by omega))) hlk hb hf
          · subst heq
            refine kw_aload_n hB B_refine_106 rfl ?_
            refine kw_getf hB B_refine_107 f_B_38 hb.1 rfl ?_
            refine kw_iload hB B_refine_110 rfl ?_
            refine kw_lload_n hB B_refine_112 rfl ?_
            refine kn_last hB B_refine_113 hb.2.2.2.2.2.2.2.2 rfl (by omega) (by decide) ?_
            have hb3 := hb.s_lk (lk' := vp_updL lk k (lN (jsg κ δ i 8)))
            have hf3 := hf.tr (jBS_set Y b 8 (.inl (1, 24, .inr (.inl (vp_updL lk k (lN (jsg κ δ i 8)))))) (by decide))
            refine kn_iinc hB B_refine_114 rfl (by decide) rfl ?_
            refine put k (k + 1) _ _ _ _ _ _ (by omega) (by omega) rfl (hK.new hno) (fun k' hk' => ?_) hb3 hf3
            by_cases hkk : k' = k
            · subst hkk; rw [pk_uLs, jup_self]
            · rw [pk_uLn hkk, jup_ne hkk]; exact hlk k' (by omega)
        · subst h24
          have hm24 : m = 24 := by omega
          subst hm24
          refine kw_iload hB B_refine_95 rfl ?_
          refine kw_iconst hB B_refine_97 (v := nI 1) (by decide) ?_
          refine kn_iadd hB B_refine_98 ?_
          refine kw_iret hF rfl B_refine_99 ?_ (by rw [hf.1]; rfl)
          exact ⟨hf, Or.inr ⟨κ', rep, i, fk, lk, rfl, hb, by omega, hK, hno⟩⟩
      have search : ∀ p k, k + p = m → (∀ k', k' < k → jsg κ δ i 8 ≠ jsg κ δ (rep k') 8) → K 64 [.ref b, .int (nI m), .int (nI i), .long (lN (jsg κ δ i 8)), .retAddr 0, .int (nI k)] [] Y 0 0 := by
        intro p
        induction p with
        | zero =>
          intro k hk hno
          refine kw_iload hB B_refine_64 rfl ?_
          refine kw_iload_n hB B_refine_66 rfl ?_
          refine kn_icmp_ge hB B_refine_67 (by omega) (by omega) (fun hc => ?_) (fun hc => absurd hc (by omega))
          exact found k (.retAddr 0) (by omega) hno (fun z => by omega)
        | succ p ihp =>
          intro k hk hno
          refine kw_iload hB B_refine_64 rfl ?_
          refine kw_iload_n hB B_refine_66 rfl ?_
          refine kn_icmp_ge hB B_refine_67 (by omega) (by omega) (fun hc => absurd hc (by omega)) (fun hc => ?_)
          refine kw_aload_n hB B_refine_70 rfl ?_
          refine kw_getf hB B_refine_71 f_B_38 hb.1 rfl ?_
          refine kw_iload hB B_refine_74 rfl ?_
          refine kn_lald hB B_refine_76 hb.2.2.2.2.2.2.2.2 rfl (by omega) (by first | decide | omega) ?_
          refine kw_lload_n hB B_refine_77 rfl ?_
          rw [hlk k (by omega)]
          have hrk := (hK.2.1 k (by omega)).1
          have hsk := hsl (rep k) (by omega) 8 (by omega)
          refine kl_cmp_eq hB B_refine_78 B_refine_79 (by omega) (by omega) (fun he => ?_) (fun he => ?_)
          · exact found k (.retAddr 0) (by omega) hno (fun _ => he.symm)
          · refine kn_iinc hB B_refine_82 rfl (by decide) rfl ?_
            refine kw_goto hB B_refine_85 ?_
            refine ihp (k + 1) (by omega) (fun k' hk' => ?_)
            by_cases hkk : k' = k
            · subst hkk; exact fun z => he z.symm
            · exact hno k' (by omega)
      have pack : ∀ p a (w : Value), a + p = 8 → K 26 [.ref b, .int (nI m), .int (nI i), .long (lN (jsg κ δ i a)), .retAddr 0, .int (nI (i * 8 + a))] [] Y 0 0 := by
        intro p
        induction p with
        | zero =>
          intro a w ha
          refine kw_iload hB B_refine_26 rfl ?_
          refine kw_iload_n hB B_refine_28 rfl ?_
          refine kw_iconst hB B_refine_29 (v := nI 1) (by decide) ?_
          refine kn_iadd hB B_refine_30 ?_
          refine kw_bipush hB B_refine_31 (v := nI 8) (by decide) ?_
          refine kn_imul hB B_refine_33 ?_
          refine kn_icmp_ge hB B_refine_34 (by omega) (by omega) (fun hc => ?_) (fun hc => absurd hc (by omega))
          refine kw_iconst hB B_refine_61 (v := nI 0) (by decide) ?_
          refine kw_istore hB B_refine_62 (by decide) rfl ?_
          rw [show a = 8 by omega]
          exact search m 0 (by omega) (fun k' hk' => absurd hk' (by omega))
        | succ p ihp =>
          intro a w ha
          have hda := hδ (i * 8 + a) (by omega)
          have hka := hκ _ hda
          have hsa := jsg_lt hκ (i := i) (by omega) (fun a ha => hδ _ (by omega)) a (by omega)
          have hs7 : (32 : Nat) ^ (a + 1) ≤ 32 ^ 8 := Nat.pow_le_pow_right (by decide) (by omega)
          have hs8 : (32 : Nat) ^ 8 = 1099511627776 := by decide
          refine kw_iload hB B_refine_26 rfl ?_
          refine kw_iload_n hB B_refine_28 rfl ?_
          refine kw_iconst hB B_refine_29 (v := nI 1) (by decide) ?_
          refine kn_iadd hB B_refine_30 ?_
          refine kw_bipush hB B_refine_31 (v := nI 8) (by decide) ?_
          refine kn_imul hB B_refine_33 ?_
          refine kn_icmp_ge hB B_refine_34 (by omega) (by omega) (fun hc => absurd hc (by omega)) (fun hc => ?_)
          refine kw_lload_n hB B_refine_37 rfl ?_
          refine kw_iconst hB B_refine_38 (v := nI 5) (by decide) ?_
          refine kl_lshl hB B_refine_39 (by decide) ?_
          refine kw_aload_n hB B_refine_40 rfl ?_
          refine kw_getf hB B_refine_41 f_B_32 hb.1 rfl ?_
          refine kw_aload_n hB B_refine_44 rfl ?_
          refine kw_getf hB B_refine_45 f_B_15 hb.1 rfl ?_
          refine kw_iload hB B_refine_48 rfl ?_
          refine kn_iald hB B_refine_50 hb.2.1 rfl (by omega) (by first | decide | omega) ?_
          rw [hnx _ (by omega)]
          refine kn_iald hB B_refine_51 hb.2.2.2.2.2.2.1 rfl (by omega) (by decide) ?_
          rw [hkd _ hda]
          refine kl_i2l hB B_refine_52 (by omega) ?_
          refine kl_lor hB B_refine_53 (by omega) (by omega) ?_
          rw [show jsg κ δ i a * 2 ^ 5 ||| κ (δ (i * 8 + a)) = jsg κ δ i (a + 1) by
            rw [Nat.mul_comm _ (2 ^ 5), ← Nat.two_pow_add_eq_or_of_lt (by omega), jsg]; omega]
          refine kw_lstore_n hB B_refine_54 rfl (by decide) rfl ?_
          refine kn_iinc hB B_refine_55 rfl (by decide) rfl ?_
          refine kw_goto hB B_refine_58 ?_
          exact ihp (a + 1) w (by omega)
      refine kw_iload_n hB B_refine_4 rfl ?_
      refine kw_aload_n hB B_refine_5 rfl ?_
      refine kw_getf hB B_refine_6 f_B_48 hb.1 rfl ?_
      refine kn_icmp_ge hB B_refine_9 (by omega) (by omega) (fun hc => absurd hc (by omega)) (fun hc => ?_)
      refine kw_aload_n hB B_refine_12 rfl ?_
      refine kw_getf hB B_refine_13 f_B_32 hb.1 rfl ?_
      refine kw_iload_n hB B_refine_16 rfl ?_
      refine kn_iald hB B_refine_17 hb.2.2.2.2.2.2.1 rfl (by omega) (by first | decide | omega) ?_
      rw [hkd i (by omega)]
      have := hκ i (by omega)
      refine kl_i2l hB B_refine_18 (by omega) ?_
      refine kw_lstore_n hB B_refine_19 rfl (by decide) rfl ?_
      refine kw_iload_n hB B_refine_20 rfl ?_
      refine kw_bipush hB B_refine_21 (v := nI 8) (by decide) ?_
      refine kn_imul hB B_refine_23 ?_
      refine kw_istore hB B_refine_24 (by decide) rfl ?_
      exact pack 8 0 (.retAddr 0) (by omega)
  refine kw_iconst hB B_refine_0 (v := nI 0) (by decide) ?_
  refine kw_istore_n hB B_refine_1 rfl (by decide) rfl ?_
  refine kw_iconst hB B_refine_2 (v := nI 0) (by decide) ?_
  refine kw_istore_n hB B_refine_3 rfl (by decide) rfl ?_
  exact outer n 0 0 (fun _ => 0) (fun _ => 0) fk lk X _ _ _ (by omega) (by omega) ⟨fun j hj => absurd hj (by omega), fun k hk => absurd hk (by omega), fun k k' _ hk => absurd hk (by omega)⟩ (fun j hj => absurd hj (by omega)) (fun k hk => absurd hk (by omega)) h (jfr.rf _ _)
end JB3
