-- the model: tell
/-- behind a tell that came through: signs by e words, classes, and that they are told apart well -/
def jTold (nxt : Nat → Nat → Nat) (acc : Nat → Bool) (n : Nat) (key : Nat → Nat) (m e : Nat) (W : Nat → List Nat) (rp : Nat → Nat) (se cs ct : Nat → Int32) : Prop :=
  1 ≤ e ∧ e ≤ 25 ∧ W 0 = [] ∧ (∀ j, j < e → jok (W j)) ∧ m ≤ 24 ∧ (∀ i, i < n → se (key i) = nI (jsi nxt acc W e (key i))) ∧ jCk nxt acc W e n key m rp cs ct ∧
  ∀ i, i < n → ∃ c, c < m ∧ jsi nxt acc W e (rp c) = jsi nxt acc W e (key i) ∧ ∀ x, 1 ≤ x → x ≤ 8 → jsi nxt acc W e (nxt (key i) x) = jsi nxt acc W e (nxt (rp c) x)
/-- 25 keys that words tell apart -/
def jMany (nxt : Nat → Nat → Nat) (acc : Nat → Bool) (n : Nat) (key : Nat → Nat) : Prop := ∃ rp : Nat → Nat, (∀ c, c < 25 → ∃ i, i < n ∧ rp c = key i) ∧ ∀ c c', c < 25 → c' < 25 → c ≠ c' → ∃ w, jok w ∧ acc (jkr nxt (rp c) w) ≠ acc (jkr nxt (rp c') w)
theorem jsi_s {nxt : Nat → Nat → Nat} {acc : Nat → Bool} {W : Nat → List Nat} {e : Nat} {w : List Nat} {k k' : Nat} : jsi nxt acc (va_up W e w) (e + 1) k = jsi nxt acc (va_up W e w) (e + 1) k' ↔ jsi nxt acc W e k = jsi nxt acc W e k' ∧ acc (jkr nxt k w) = acc (jkr nxt k' w) := by
  rw [jsi_eq, jsi_eq]
  constructor
  · intro h
    refine ⟨fun j hj => ?_, ?_⟩
    · have := h j (by omega); rw [jup_ne (by omega)] at this; exact this
    · have := h e (by omega); rw [jup_self] at this; exact this
  · rintro ⟨h1, h2⟩ j hj
    by_cases z : j = e
    · subst z; rw [jup_self]; exact h2
    · rw [jup_ne z]; exact h1 j (by omega)
section JMT2
variable (l : Launch) (D : va_G) (g : Nat × Nat) {X : ja_H}
set_option maxHeartbeats 16000000 in
set_option maxRecDepth 100000 in
theorem c_M_tell {V : Nat → Prop} {fi n : Nat} {nxt : Nat → Nat → Nat} {acc : Nat → Bool} {key : Nat → Nat} {s0 s st gd tb li se el er cs ct : Nat → Int32} (h : jEr X s st gd tb li se el er cs ct) (hR : jRu l D g V fi nxt acc s0 st gd tb) (hs : ∀ j, 18 ≤ j → j ≤ 25 → s j = s0 j) (hn : s 27 = nI n) (he : s 29 = nI 1) (hx : jRx V fi nxt (8 * n) n key) (hli : ∀ i, i < n → li i = nI (key i)) (hse : ∀ i, i < n → se (key i) = nI (acc (key i)).toNat) :
    AMet l D g 5 0 0 m_M_tell [.ref 145] X (fun r X' => ∃ (s' se' el' er' cs' ct' : Nat → Int32), jEr X' s' st gd tb li se' el' er' cs' ct' ∧ (∀ j, j ≠ 29 → j ≠ 32 → s' j = s j) ∧ jfr [145, 161, 162, 163, 164, 165] X X' ∧ ((r = some (.int (nI 1)) ∧ ∃ m e W rp, s' 32 = nI m ∧ jTold nxt acc n key m e W rp se' cs' ct') ∨ (r = some (.int (nI 0)) ∧ jMany nxt acc n key))) := by
  have hR0 := hR
  obtain ⟨v0, v1, v2, hX⟩ := hR
  have hn15 := hx.le v2
  have fS : ∀ (Y : ja_H) (p : Nat) (c : ja_C), p ∈ [145, 161, 162, 163, 164, 165] → jfr [145, 161, 162, 163, 164, 165] Y (Y.set p c) := fun Y p c hp => (jset_fr Y p c).mono (fun k hk => by rw [List.mem_singleton.mp hk]; exact hp)
  have clo : ∀ i x, i < n → 1 ≤ x → x ≤ 8 → ∃ j, j < n ∧ key j = nxt (key i) x := fun i x hi h1 h8 => by
    obtain ⟨j, j1, j2⟩ := hx.2.2.2.2.1 (8 * i + (x - 1)) (by omega)
    rw [show (8 * i + (x - 1)) / 8 = i by omega, show (8 * i + (x - 1)) % 8 + 1 = x by omega] at j2
    exact ⟨j, j1, j2⟩
  refine ja_metK (by decide) rfl (Nat.le_of_ble_eq_true rfl) fun K hB hF => ?_
  have body : ∀ e (W : Nat → List Nat) (ρ : Nat → Nat) (s1 se1 el1 er1 cs1 ct1 : Nat → Int32) (Y : ja_H) (b c d : Value), e ≤ 25 → 1 ≤ e → jEr Y s1 st gd tb li se1 el1 er1 cs1 ct1 → (∀ j, j ≠ 29 → j ≠ 32 → s1 j = s j) → s1 29 = nI e → jfr [145, 161, 162, 163, 164, 165] X Y → W 0 = [] → (∀ j, j < e → jok (W j)) → (∀ i, i < n → se1 (key i) = nI (jsi nxt acc W e (key i))) → (∀ a, a < e → ∃ i, i < n ∧ ρ a = key i) → (∀ a a', a < e → a' < e → jsi nxt acc W e (ρ a) = jsi nxt acc W e (ρ a') → a = a') →
      (e < 25 → ∀ (W' : Nat → List Nat) (ρ' : Nat → Nat) (s2 se2 el2 er2 cs2 ct2 : Nat → Int32) (Z : ja_H) (b c d : Value), jEr Z s2 st gd tb li se2 el2 er2 cs2 ct2 → (∀ j, j ≠ 29 → j ≠ 32 → s2 j = s j) → s2 29 = nI (e + 1) → jfr [145, 161, 162, 163, 164, 165] X Z → W' 0 = [] → (∀ j, j < e + 1 → jok (W' j)) → (∀ i, i < n → se2 (key i) = nI (jsi nxt acc W' (e + 1) (key i))) → (∀ a, a < e + 1 → ∃ i, i < n ∧ ρ' a = key i) → (∀ a a', a < e + 1 → a' < e + 1 → jsi nxt acc W' (e + 1) (ρ' a) = jsi nxt acc W' (e + 1) (ρ' a') → a = a') → K 2 [.ref 145, .int (nI 1), b, c, d] [] Z 0 0) → K 2 [.ref 145, .int (nI 1), b, c, d] [] Y 0 0 := by
    intro e W ρ s1 se1 el1 er1 cs1 ct1 Y b c d he25 h1e e1 e2 e3 hf w0 wok hsg ρ1 ρ2 next
    have slt : ∀ k, jsi nxt acc W e k < 2 ^ 25 := fun k => Nat.lt_of_lt_of_le (jsi_lt nxt acc W k e) (Nat.pow_le_pow_right (by decide) he25)
    -- behind the classes
    have b47 : ∀ (m i : Nat) (rp : Nat → Nat) (s2 cs2 ct2 : Nat → Int32) (Z : ja_H) (u w : Value), jEr Z s2 st gd tb li se1 el1 er1 cs2 ct2 → (∀ j, j ≠ 32 → s2 j = s1 j) → s2 32 = nI m → jCk nxt acc W e n key m rp cs2 ct2 → (m = 25 ∨ ∀ i', i' < n → ∃ c, c < m ∧ jsi nxt acc W e (rp c) = jsi nxt acc W e (key i')) → jfr [145, 161, 162, 163, 164, 165] X Z → K 47 [.ref 145, .int (nI 1), .int (nI i), u, w] [] Z 0 0 := by
      intro m i rp s2 cs2 ct2 Z u w z1 z2 z3 zC zcov zf
      have zC0 := zC
      obtain ⟨c1, c2, c3⟩ := zC
      have s2o : ∀ j, j ≠ 29 → j ≠ 32 → s2 j = s j := fun j h1 h2 => (z2 j h2).trans (e2 j h1 h2)
      refine kw_aload_n hB M_tell_47 rfl ?_
      refine kw_getf hB M_tell_48 f_M_186 z1.1 rfl ?_
      refine kw_bipush hB M_tell_51 (v := nI 24) (by decide) ?_
      rw [z3]
      refine kn_icmp_le hB M_tell_53 (by omega) (by decide) (fun h24 => ?_) (fun h24 => ?_)
      rotate_left
      · refine kw_iconst hB M_tell_56 (v := nI 0) (by decide) ?_
        refine kw_zret hF rfl (by decide) M_tell_57 ⟨s2, se1, el1, er1, cs2, ct2, z1, s2o, zf, Or.inr ⟨rfl, rp, fun c hc => (c2 c (by omega)).2.2, fun c c' hc hc' hne => ?_⟩⟩ zf.1
        have hne2 : ¬ jsi nxt acc W e (rp c) = jsi nxt acc W e (rp c') := fun z => hne (c3 c c' (by omega) (by omega) z)
        rw [jsi_eq] at hne2
        exact Classical.byContradiction fun hno => hne2 (fun j hj => Classical.byContradiction fun hd => hno ⟨W j, wok j hj, hd⟩)
      · have zcov : ∀ i', i' < n → ∃ c, c < m ∧ jsi nxt acc W e (rp c) = jsi nxt acc W e (key i') := zcov.resolve_left (by omega)
        -- as many classes as words
        have hem : e ≤ m := by
          have pick : ∀ a, ∃ c, a < e → c < m ∧ jsi nxt acc W e (rp c) = jsi nxt acc W e (ρ a) := fun a => by
            by_cases ha : a < e
            · obtain ⟨i', hi', hk⟩ := ρ1 a ha
              obtain ⟨c, hc, hce⟩ := zcov i' hi'
              exact ⟨c, fun _ => ⟨hc, by rw [hk]; exact hce⟩⟩
            · exact ⟨0, fun z => absurd z ha⟩
          refine jpig m (fun a => Classical.choose (pick a)) e (fun a ha => (Classical.choose_spec (pick a) ha).1) (fun a a' ha ha' hc => ρ2 a a' ha ha' ?_)
          have q1 := (Classical.choose_spec (pick a) ha).2
          have q2 := (Classical.choose_spec (pick a') ha').2
          have hc : Classical.choose (pick a) = Classical.choose (pick a') := hc
          rw [← q1, ← q2, hc]
        have s2e : s2 29 = nI e := (z2 29 (by decide)).trans e3
        refine kw_aload_n hB M_tell_58 rfl ?_
        refine kw_callV hB M_tell_59 s_M_192 im_M_another se_M_another z1.1 rfl rfl (As := []) (c_M_another l D g z1 hR0 (fun j h1 h2 => (s2o j (by omega) (by omega)).trans (hs j h1 h2)) ((s2o 27 (by decide) (by decide)).trans hn) z3 s2e he25 hx hli hsg zC0 zcov) rfl (by decide) (Nat.le_of_ble_eq_true rfl) (by omega) (by omega) (fun r X1 hq hl => ?_)
        rcases hq with ⟨rfl, hxe, hall⟩ | ⟨rfl, i0, c0, x, bb, hi0, hc0, hx1, hx8, hbe, hsig, hbit, g1, gf⟩
        · obtain rfl := hxe.symm
          refine kw_istore_n hB M_tell_62 rfl (by decide) rfl ?_
          refine kw_iload_n hB M_tell_63 rfl ?_
          refine kn_if_eq hB M_tell_64 (by decide) (fun _ => ?_) (fun z => absurd rfl z)
          refine kw_iload_n hB M_tell_2 rfl ?_
          refine kn_if_eq hB M_tell_3 (by decide) (fun _ => ?_) (fun z => absurd rfl z)
          refine kw_iconst hB M_tell_152 (v := nI 1) (by decide) ?_
          refine kw_zret hF rfl (by decide) M_tell_153 ⟨s2, se1, el1, er1, cs2, ct2, z1, s2o, zf, Or.inl ⟨rfl, m, e, W, rp, z3, h1e, he25, w0, wok, by omega, hsg, zC0, hall⟩⟩ zf.1
        · have zf1 := zf.tr (gf.mono (T := [145, 161, 162, 163, 164, 165]) (fun k hk => by simp only [List.mem_cons, List.not_mem_nil, or_false] at hk ⊢; omega))
          -- the new word
          have kx : ∀ k, jkr nxt k ((x - 1) :: W bb) = jkr nxt (nxt k x) (W bb) := fun k => by
            show jkr nxt (nxt k (x - 1 + 1)) (W bb) = _
            rw [show x - 1 + 1 = x by omega]
          have bacc : ∀ k, acc (jkr nxt k ((x - 1) :: W bb)) = (jsi nxt acc W e (nxt k x)).testBit bb := fun k => by rw [kx, jsi_bit _ _ _ _ _ _ hbe]
          have sig' : ∀ k, jsi nxt acc (va_up W e ((x - 1) :: W bb)) (e + 1) k = jsi nxt acc W e k ||| ((jsi nxt acc W e (nxt k x)).testBit bb).toNat * 2 ^ e := fun k => by
            rw [jsi, jup_self, bacc, jsi_congr e (fun j hj => jup_ne (by omega))]
          have s'bit : ∀ k, (jsi nxt acc (va_up W e ((x - 1) :: W bb)) (e + 1) k).testBit bb = (jsi nxt acc W e k).testBit bb := fun k => by
            rw [jsi_bit _ _ _ _ _ _ (by omega), jsi_bit _ _ _ _ _ _ hbe, jup_ne (by omega)]
          have s'lt : ∀ k, jsi nxt acc (va_up W e ((x - 1) :: W bb)) (e + 1) k < 2 ^ 26 := fun k => Nat.lt_of_lt_of_le (jsi_lt nxt acc _ k _) (Nat.pow_le_pow_right (by decide) (by omega))
          have bits : ∀ q i (se2 : Nat → Int32) (Z : ja_H) (u w : Value), i + q = n → jEr Z s2 st gd tb li se2 (upd el1 e (nI x)) (upd er1 e (nI bb)) cs2 ct2 → (∀ i', i' < n → se2 (key i') = nI (if i' < i then jsi nxt acc (va_up W e ((x - 1) :: W bb)) (e + 1) (key i') else jsi nxt acc W e (key i'))) → jfr [145, 161, 162, 163, 164, 165] X Z → K 69 [.ref 145, .int (nI 1), .int (nI i), u, w] [] Z 0 0 := by
            intro q
            induction q with
            | zero =>
              intro i se2 Z u w hi y1 y2 yf
              refine kw_iload_n hB M_tell_69 rfl ?_
              refine kw_aload_n hB M_tell_70 rfl ?_
              refine kw_getf hB M_tell_71 f_M_174 y1.1 rfl ?_
              rw [show s2 27 = nI n from (s2o 27 (by decide) (by decide)).trans hn]
              refine kn_icmp_ge hB M_tell_74 (by omega) (by omega) (fun _ => ?_) (fun z => absurd z (by omega))
              refine kw_aload_n hB M_tell_139 rfl ?_
              refine kw_dup hB M_tell_140 rfl ?_
              refine kw_getf hB M_tell_141 f_M_183 y1.1 rfl ?_
              rw [s2e]
              refine kw_iconst hB M_tell_144 (v := nI 1) (by decide) ?_
              refine kn_iadd hB M_tell_145 ?_
              refine km_put hB M_tell_146 y1.1 f_M_183 jw_M_29 (by decide) rfl rfl rfl ?_
              have y3 := y1.s_s (f' := upd s2 29 (nI (e + 1)))
              have yf2 := yf.tr (fS Z 145 (jMo (upd s2 29 (nI (e + 1)))) (by decide))
              refine kw_goto hB M_tell_149 ?_
              -- the keys that are told apart
              have hdif : acc (jkr nxt (key i0) ((x - 1) :: W bb)) ≠ acc (jkr nxt (rp c0) ((x - 1) :: W bb)) := by rw [bacc, bacc]; exact hbit
              obtain ⟨zz, hz1, hz2⟩ : ∃ zz, (∃ i, i < n ∧ zz = key i) ∧ ∀ a, a < e → ¬ (jsi nxt acc W e (ρ a) = jsi nxt acc W e zz ∧ acc (jkr nxt (ρ a) ((x - 1) :: W bb)) = acc (jkr nxt zz ((x - 1) :: W bb))) := by
                by_cases hex : ∃ a, a < e ∧ jsi nxt acc W e (ρ a) = jsi nxt acc W e (key i0)
                · obtain ⟨a, ha, hae⟩ := hex
                  by_cases hl : acc (jkr nxt (ρ a) ((x - 1) :: W bb)) = acc (jkr nxt (key i0) ((x - 1) :: W bb))
                  · refine ⟨rp c0, (c2 c0 hc0).2.2, fun a' ha' z => ?_⟩
                    have : a' = a := ρ2 a' a ha' ha (z.1.trans (hsig.trans hae.symm))
                    subst this
                    exact hdif (hl.symm.trans z.2)
                  · refine ⟨key i0, ⟨i0, hi0, rfl⟩, fun a' ha' z => ?_⟩
                    have : a' = a := ρ2 a' a ha' ha (z.1.trans hae.symm)
                    subst this
                    exact hl z.2
                · exact ⟨key i0, ⟨i0, hi0, rfl⟩, fun a' ha' z => hex ⟨a', ha', z.1⟩⟩
              refine next (by omega) (va_up W e ((x - 1) :: W bb)) (va_up ρ e zz) _ _ _ _ _ _ _ _ _ _ y3 (fun j h1 h2 => by rw [pk_un h1]; exact s2o j h1 h2) (pk_us ..) yf2 (by rw [jup_ne (by omega)]; exact w0) (fun j hj => ?_) (fun i' hi' => by rw [y2 i' hi', if_pos (by omega)]) (fun a ha => ?_) (fun a a' ha ha' hsg2 => ?_)
              · by_cases z : j = e
                · subst z; rw [jup_self]; exact jok_cons.mpr ⟨by omega, wok bb hbe⟩
                · rw [jup_ne z]; exact wok j (by omega)
              · by_cases z : a = e
                · subst z; rw [jup_self]; exact hz1
                · rw [jup_ne z]; exact ρ1 a (by omega)
              · rw [jsi_s] at hsg2
                by_cases z : a = e <;> by_cases z' : a' = e
                · omega
                · rw [z, jup_self, jup_ne z'] at hsg2
                  exact absurd ⟨hsg2.1.symm, hsg2.2.symm⟩ (hz2 a' (by omega))
                · rw [z', jup_self, jup_ne z] at hsg2
                  exact absurd hsg2 (hz2 a (by omega))
                · rw [jup_ne z, jup_ne z'] at hsg2
                  exact ρ2 a a' (by omega) (by omega) hsg2.1
            | succ q ihq =>
              intro i se2 Z u w hi y1 y2 yf
              have hin : i < n := by omega
              have hVi := hx.2.2.1 i hin
              obtain ⟨j, j1, j2⟩ := clo i x hin hx1 hx8
              obtain ⟨-, -, hk3⟩ := hX Z s2 st gd tb y1.tr (fun j h1 h2 => (s2o j (by omega) (by omega)).trans (hs j h1 h2)) (fun _ _ => rfl) (fun _ _ => rfl) (fun _ _ => rfl)
              refine kw_iload_n hB M_tell_69 rfl ?_
              refine kw_aload_n hB M_tell_70 rfl ?_
              refine kw_getf hB M_tell_71 f_M_174 y1.1 rfl ?_
              rw [show s2 27 = nI n from (s2o 27 (by decide) (by decide)).trans hn]
              refine kn_icmp_ge hB M_tell_74 (by omega) (by omega) (fun z => absurd z (by omega)) (fun _ => ?_)
              refine kw_aload_n hB M_tell_77 rfl ?_
              refine kw_getf hB M_tell_78 f_M_53 y1.1 rfl ?_
              refine kw_iload_n hB M_tell_81 rfl ?_
              refine kn_iald hB M_tell_82 y1.2.2.2.2.1 rfl (by omega) (by decide) ?_
              rw [hli i hin]
              refine kw_istore_n hB M_tell_83 rfl (by decide) rfl ?_
              refine kw_aload_n hB M_tell_84 rfl ?_
              refine kw_getf hB M_tell_85 f_M_56 y1.1 rfl ?_
              refine kw_aload_n hB M_tell_88 rfl ?_
              refine kw_iload_n hB M_tell_89 rfl ?_
              refine kw_aload_n hB M_tell_90 rfl ?_
              refine kw_getf hB M_tell_91 f_M_59 y1.1 rfl ?_
              refine kw_aload_n hB M_tell_94 rfl ?_
              refine kw_getf hB M_tell_95 f_M_183 y1.1 rfl ?_
              rw [s2e]
              refine kn_iald hB M_tell_98 y1.2.2.2.2.2.2.1 rfl (by omega) (by decide) ?_
              rw [pk_us]
              refine kw_callV hB M_tell_99 s_M_180 im_M_next se_M_next y1.1 rfl rfl (As := [.int (nI (key i)), .int (nI x)]) (hk3 (key i) x hVi hx1 hx8) rfl (by decide) (Nat.le_of_ble_eq_true rfl) (by omega) (by omega) (fun r X1 hq hl => ?_)
              obtain ⟨rfl, hxeq⟩ := hq
              obtain rfl := hxeq.symm
              refine kn_iald hB M_tell_102 y1.2.2.2.2.2.1 rfl (v2 _ (v1 _ _ hVi hx1 hx8)) (by decide) ?_
              obtain ⟨σ0, hσ0, hσlt, hσb⟩ : ∃ σ0, se2 (nxt (key i) x) = nI σ0 ∧ σ0 < 2 ^ 26 ∧ σ0.testBit bb = (jsi nxt acc W e (nxt (key i) x)).testBit bb := by
                rw [← j2, y2 j j1]
                by_cases z : j < i
                · rw [if_pos z]; exact ⟨_, rfl, s'lt _, s'bit _⟩
                · rw [if_neg z]; exact ⟨_, rfl, by have := slt (key j); omega, rfl⟩
              rw [hσ0]
              refine kw_aload_n hB M_tell_103 rfl ?_
              refine kw_getf hB M_tell_104 f_M_62 y1.1 rfl ?_
              refine kw_aload_n hB M_tell_107 rfl ?_
              refine kw_getf hB M_tell_108 f_M_183 y1.1 rfl ?_
              rw [s2e]
              refine kn_iald hB M_tell_111 y1.2.2.2.2.2.2.2.1 rfl (by omega) (by decide) ?_
              rw [pk_us]
              refine kw_ishr hB M_tell_112 ?_
              rw [jb_shr (by omega) (by omega)]
              refine kw_iconst hB M_tell_113 (v := nI 1) (by decide) ?_
              refine kw_iand hB M_tell_114 ?_
              rw [jb_and, Nat.and_one_is_mod, jb_bit, hσb, show (if (jsi nxt acc W e (nxt (key i) x)).testBit bb = true then 1 else 0) = ((jsi nxt acc W e (nxt (key i) x)).testBit bb).toNat by cases (jsi nxt acc W e (nxt (key i) x)).testBit bb <;> rfl]
              refine kw_istore hB M_tell_115 (by decide) rfl ?_
              refine kw_aload_n hB M_tell_117 rfl ?_
              refine kw_getf hB M_tell_118 f_M_56 y1.1 rfl ?_
              refine kw_iload_n hB M_tell_121 rfl ?_
              refine kw_dup2 hB M_tell_122 rfl rfl ?_
              refine kn_iald hB M_tell_123 y1.2.2.2.2.2.1 rfl (v2 _ hVi) (by decide) ?_
              rw [y2 i hin, if_neg (by omega)]
              refine kw_iload hB M_tell_124 rfl ?_
              refine kw_aload_n hB M_tell_126 rfl ?_
              refine kw_getf hB M_tell_127 f_M_183 y1.1 rfl ?_
              rw [s2e]
              refine kw_ishl hB M_tell_130 ?_
              have hp : ((jsi nxt acc W e (nxt (key i) x)).testBit bb).toNat * 2 ^ e < 2 ^ 32 := by
                have : 2 ^ e ≤ 2 ^ 25 := Nat.pow_le_pow_right (by decide) he25
                cases (jsi nxt acc W e (nxt (key i) x)).testBit bb <;> simp <;> omega
              rw [jb_shl (by omega) hp]
              refine kw_ior hB M_tell_131 ?_
              rw [jb_or, ← sig']
              refine kn_iast hB M_tell_132 y1.2.2.2.2.2.1 rfl (v2 _ hVi) (by decide) ?_
              refine kn_iinc hB M_tell_133 rfl (by decide) rfl ?_
              refine kw_goto hB M_tell_136 ?_
              refine ihq (i + 1) _ _ _ _ (by omega) (y1.s_se (f' := upd se2 (key i) (nI (jsi nxt acc (va_up W e ((x - 1) :: W bb)) (e + 1) (key i))))) (fun i' hi' => ?_) (yf.tr (fS Z 161 _ (by decide)))
              by_cases z : i' = i
              · subst z; rw [pk_us, if_pos (by omega)]
              · rw [pk_un (fun hk => z (hx.2.2.2.1 i' i hi' hin hk)), y2 i' hi']
                by_cases z2 : i' < i
                · rw [if_pos z2, if_pos (by omega)]
                · rw [if_neg z2, if_neg (by omega)]
          refine kw_istore_n hB M_tell_62 rfl (by decide) rfl ?_
          refine kw_iload_n hB M_tell_63 rfl ?_
          refine kn_if_eq hB M_tell_64 (by decide) (fun z => absurd z (by decide)) (fun _ => ?_)
          refine kw_iconst hB M_tell_67 (v := nI 0) (by decide) ?_
          refine kw_istore_n hB M_tell_68 rfl (by decide) rfl ?_
          exact bits n 0 se1 X1 _ _ (by omega) g1 (fun i' hi' => by rw [hsg i' hi', if_neg (by omega)]) zf1
    have cls : ∀ q i m (rp : Nat → Nat) (s2 cs2 ct2 : Nat → Int32) (Z : ja_H) (u w : Value), i + q = n → jEr Z s2 st gd tb li se1 el1 er1 cs2 ct2 → (∀ j, j ≠ 32 → s2 j = s1 j) → s2 32 = nI m → jCk nxt acc W e n key m rp cs2 ct2 → (∀ i', i' < i → ∃ c, c < m ∧ jsi nxt acc W e (rp c) = jsi nxt acc W e (key i')) → jfr [145, 161, 162, 163, 164, 165] X Z → K 13 [.ref 145, .int (nI 1), .int (nI i), u, w] [] Z 0 0 := by
      intro q
      induction q with
      | zero =>
        intro i m rp s2 cs2 ct2 Z u w hi z1 z2 z3 zC zcov zf
        refine kw_iload_n hB M_tell_13 rfl ?_
        refine kw_aload_n hB M_tell_14 rfl ?_
        refine kw_getf hB M_tell_15 f_M_174 z1.1 rfl ?_
        rw [show s2 27 = nI n from (z2 27 (by decide)).trans ((e2 27 (by decide) (by decide)).trans hn)]
        refine kn_icmp_ge hB M_tell_18 (by omega) (by omega) (fun _ => ?_) (fun z => absurd z (by omega))
        exact b47 m i rp s2 cs2 ct2 Z u w z1 z2 z3 zC (Or.inr (fun i' hi' => zcov i' (by omega))) zf
      | succ q ihq =>
        intro i m rp s2 cs2 ct2 Z u w hi z1 z2 z3 zC zcov zf
        have zC0 := zC
        obtain ⟨c1, c2, c3⟩ := zC
        have hin : i < n := by omega
        have hVi := hx.2.2.1 i hin
        refine kw_iload_n hB M_tell_13 rfl ?_
        refine kw_aload_n hB M_tell_14 rfl ?_
        refine kw_getf hB M_tell_15 f_M_174 z1.1 rfl ?_
        rw [show s2 27 = nI n from (z2 27 (by decide)).trans ((e2 27 (by decide) (by decide)).trans hn)]
        refine kn_icmp_ge hB M_tell_18 (by omega) (by omega) (fun z => absurd z (by omega)) (fun _ => ?_)
        refine kw_aload_n hB M_tell_21 rfl ?_
        refine kw_getf hB M_tell_22 f_M_186 z1.1 rfl ?_
        refine kw_bipush hB M_tell_25 (v := nI 24) (by decide) ?_
        rw [z3]
        refine kn_icmp_gt hB M_tell_27 (by omega) (by decide) (fun h24 => ?_) (fun h24 => ?_)
        · exact b47 m i rp s2 cs2 ct2 Z u w z1 z2 z3 zC0 (Or.inl (by omega)) zf
        · refine kw_aload_n hB M_tell_30 rfl ?_
          refine kw_aload_n hB M_tell_31 rfl ?_
          refine kw_getf hB M_tell_32 f_M_53 z1.1 rfl ?_
          refine kw_iload_n hB M_tell_35 rfl ?_
          refine kn_iald hB M_tell_36 z1.2.2.2.2.1 rfl (by omega) (by decide) ?_
          rw [hli i hin]
          refine kw_callV hB M_tell_37 s_M_189 im_M_classOf se_M_classOf z1.1 rfl rfl (As := [.int (nI (key i))]) (c_M_classOf l D g z1 z3 c1 (v2 _ hVi)) rfl (by decide) (Nat.le_of_ble_eq_true rfl) (by omega) (by omega) (fun r X1 hq hl => ?_)
          rcases hq with ⟨cc, hcc, hce, -, rfl, hxe⟩ | ⟨hno, hnew, -⟩
          · obtain rfl := hxe.symm
            refine kw_pop hB M_tell_40 rfl ?_
            refine kn_iinc hB M_tell_41 rfl (by decide) rfl ?_
            refine kw_goto hB M_tell_44 ?_
            refine ihq (i + 1) m rp s2 cs2 ct2 _ u w (by omega) z1 z2 z3 zC0 (fun i' hi' => ?_) zf
            by_cases z : i' = i
            · subst z
              refine ⟨cc, hcc, ?_⟩
              rw [(c2 cc hcc).2.1, hsg i' hin] at hce
              exact (nI_eq (by have := slt (rp cc); omega) (by have := slt (key i'); omega)).mp hce
            · exact zcov i' (by omega)
          · obtain ⟨rfl, g1, gf⟩ := hnew (by omega)
            refine kw_pop hB M_tell_40 rfl ?_
            refine kn_iinc hB M_tell_41 rfl (by decide) rfl ?_
            refine kw_goto hB M_tell_44 ?_
            have hnew2 : ∀ c, c < m → jsi nxt acc W e (rp c) ≠ jsi nxt acc W e (key i) := fun c hc z => hno c hc (by rw [(c2 c hc).2.1, hsg i hin, z])
            refine ihq (i + 1) (m + 1) (va_up rp m (key i)) _ _ _ X1 u w (by omega) g1 (fun j h1 => by rw [pk_un h1]; exact z2 j h1) (pk_us ..) ⟨by omega, fun c hc => ?_, fun c c' hc hc' hse2 => ?_⟩ (fun i' hi' => ?_) (zf.tr (gf.mono (fun k hk => by simp only [List.mem_cons, List.not_mem_nil, or_false] at hk ⊢; omega)))
            · by_cases z : c = m
              · subst z; rw [pk_us, pk_us, jup_self]; exact ⟨rfl, hsg i hin, i, hin, rfl⟩
              · rw [pk_un z, pk_un z, jup_ne z]; exact c2 c (by omega)
            · by_cases z : c = m <;> by_cases z' : c' = m
              · omega
              · rw [z, jup_self, jup_ne z'] at hse2; exact absurd hse2.symm (hnew2 c' (by omega))
              · rw [z', jup_self, jup_ne z] at hse2; exact absurd hse2 (hnew2 c (by omega))
              · rw [jup_ne z, jup_ne z'] at hse2; exact c3 c c' (by omega) (by omega) hse2
            · by_cases z : i' = i
              · subst z; exact ⟨m, by omega, by rw [jup_self]⟩
              · obtain ⟨c, hc, hce⟩ := zcov i' (by omega)
                exact ⟨c, by omega, by rw [jup_ne (by omega)]; exact hce⟩
    refine kw_iload_n hB M_tell_2 rfl ?_
    refine kn_if_eq hB M_tell_3 (by decide) (fun z => absurd z (by decide)) (fun _ => ?_)
    refine kw_aload_n hB M_tell_6 rfl ?_
    refine kw_iconst hB M_tell_7 (v := nI 0) (by decide) ?_
    refine km_put hB M_tell_8 e1.1 f_M_186 jw_M_32 (by decide) rfl rfl rfl ?_
    have y3 := e1.s_s (f' := upd s1 32 (nI 0))
    have yf2 := hf.tr (fS Y 145 (jMo (upd s1 32 (nI 0))) (by decide))
    refine kw_iconst hB M_tell_11 (v := nI 0) (by decide) ?_
    refine kw_istore_n hB M_tell_12 rfl (by decide) rfl ?_
    exact cls n 0 0 (fun _ => 0) _ cs1 ct1 _ _ _ (by omega) y3 (fun j h1 => pk_un h1) (pk_us ..) ⟨by omega, fun c hc => absurd hc (by omega), fun c c' hc => absurd hc (by omega)⟩ (fun i' hi' => absurd hi' (by omega)) yf2
  have main : ∀ p e (W : Nat → List Nat) (ρ : Nat → Nat) (s1 se1 el1 er1 cs1 ct1 : Nat → Int32) (Y : ja_H) (b c d : Value), e + p = 25 → 1 ≤ e → jEr Y s1 st gd tb li se1 el1 er1 cs1 ct1 → (∀ j, j ≠ 29 → j ≠ 32 → s1 j = s j) → s1 29 = nI e → jfr [145, 161, 162, 163, 164, 165] X Y → W 0 = [] → (∀ j, j < e → jok (W j)) → (∀ i, i < n → se1 (key i) = nI (jsi nxt acc W e (key i))) → (∀ a, a < e → ∃ i, i < n ∧ ρ a = key i) → (∀ a a', a < e → a' < e → jsi nxt acc W e (ρ a) = jsi nxt acc W e (ρ a') → a = a') → K 2 [.ref 145, .int (nI 1), b, c, d] [] Y 0 0 := by
    intro p
    induction p with
    | zero =>
      intro e W ρ s1 se1 el1 er1 cs1 ct1 Y b c d hep h1e e1 e2 e3 hf w0 wok hsg ρ1 ρ2
      exact body e W ρ s1 se1 el1 er1 cs1 ct1 Y b c d (by omega) h1e e1 e2 e3 hf w0 wok hsg ρ1 ρ2 (fun z => by omega)
    | succ p ih =>
      intro e W ρ s1 se1 el1 er1 cs1 ct1 Y b c d hep h1e e1 e2 e3 hf w0 wok hsg ρ1 ρ2
      exact body e W ρ s1 se1 el1 er1 cs1 ct1 Y b c d (by omega) h1e e1 e2 e3 hf w0 wok hsg ρ1 ρ2 (fun _ W' ρ' s2 se2 el2 er2 cs2 ct2 Z b c d q1 q2 q3 q4 q5 q6 q7 q8 q9 => ih (e + 1) W' ρ' s2 se2 el2 er2 cs2 ct2 Z b c d (by omega) (by omega) q1 q2 q3 q4 q5 q6 q7 q8 q9)
  refine kw_iconst hB M_tell_0 (v := nI 1) (by decide) ?_
  refine kw_istore_n hB M_tell_1 rfl (by decide) rfl ?_
  refine main 24 1 (fun _ => []) (fun _ => fi) s se el er cs ct X _ _ _ (by omega) (by omega) h (fun _ _ _ => rfl) he (jfr.rf _ _) rfl (fun _ _ _ z => (by cases z)) (fun i hi => ?_) (fun a ha => ⟨0, by have := hx.1; omega, hx.2.1.symm⟩) (fun a a' h1 h2 _ => by omega)
  rw [hse i hi]
  show _ = nI (0 ||| (acc (key i)).toNat * 2 ^ 0)
  rw [Nat.zero_or, Nat.pow_zero, Nat.mul_one]
end JMT2
