-- the model: reach
/-- a rule of the model: first, mayEnd and next, in every heap with the same rule and slots (slot 41 may be written) -/
def jRu (l : Launch) (D : va_G) (g : Nat × Nat) (V : Nat → Prop) (fi : Nat) (nxt : Nat → Nat → Nat) (acc : Nat → Bool) (s st gd tb : Nat → Int32) : Prop :=
  V fi ∧ (∀ k c, V k → 1 ≤ c → c ≤ 8 → V (nxt k c)) ∧ (∀ k, V k → k < 1536) ∧
  ∀ (X : ja_H) (s' st' gd' tb' : Nat → Int32), jTr X s' st' gd' tb' → (∀ j, 18 ≤ j → j ≤ 25 → s' j = s j) → (∀ i, i ≠ 41 → st' i = st i) → (∀ i, i ≠ 41 → gd' i = gd i) → (∀ i, i < 7872 ∨ 8064 ≤ i → tb' i = tb i) →
    AMet l D g 3 0 0 m_M_first [.ref 145] X (fun r Y => r = some (.int (nI fi)) ∧ Y = X) ∧ (∀ k, V k → AMet l D g 3 0 0 m_M_mayEnd [.ref 145, .int (nI k)] X (fun r Y => r = some (.int (nI (acc k).toNat)) ∧ Y = X)) ∧ ∀ k c, V k → 1 ≤ c → c ≤ 8 → AMet l D g 3 0 0 m_M_next [.ref 145, .int (nI k), .int (nI c)] X (fun r Y => r = some (.int (nI (nxt k c))) ∧ Y = X)
/-- t ways of n keys have been followed -/
def jRx (V : Nat → Prop) (fi : Nat) (nxt : Nat → Nat → Nat) (t n : Nat) (key : Nat → Nat) : Prop :=
  1 ≤ n ∧ key 0 = fi ∧ (∀ j, j < n → V (key j)) ∧ (∀ i j, i < n → j < n → key i = key j → i = j) ∧ (∀ s, s < t → ∃ j, j < n ∧ key j = nxt (key (s / 8)) (s % 8 + 1)) ∧ (∀ j, j < n → ∃ w, jok w ∧ jkr nxt fi w = key j) ∧ t ≤ 8 * n
theorem jRx.le {V : Nat → Prop} {fi : Nat} {nxt : Nat → Nat → Nat} {t n : Nat} {key : Nat → Nat} (h : jRx V fi nxt t n key) (hV : ∀ k, V k → k < 1536) : n ≤ 1536 := jpig 1536 key n (fun i hi => hV _ (h.2.2.1 i hi)) h.2.2.2.1
theorem jRx.old {V : Nat → Prop} {fi : Nat} {nxt : Nat → Nat → Nat} {t n : Nat} {key : Nat → Nat} (h : jRx V fi nxt t n key) {j : Nat} (hj : j < n) (ht : t < 8 * n) (hk : key j = nxt (key (t / 8)) (t % 8 + 1)) : jRx V fi nxt (t + 1) n key := by
  obtain ⟨h1, h2, h3, h4, h5, h6, h7⟩ := h
  refine ⟨h1, h2, h3, h4, fun s hs => ?_, h6, by omega⟩
  by_cases hst : s = t
  · subst hst; exact ⟨j, hj, hk⟩
  · exact h5 s (by omega)
theorem jRx.new {V : Nat → Prop} {fi : Nat} {nxt : Nat → Nat → Nat} {t n k : Nat} {key : Nat → Nat} (h : jRx V fi nxt t n key) (ht : t < 8 * n) (hk : k = nxt (key (t / 8)) (t % 8 + 1)) (hV : V k) (hno : ∀ j, j < n → key j ≠ k) : jRx V fi nxt (t + 1) (n + 1) (va_up key n k) := by
  obtain ⟨h1, h2, h3, h4, h5, h6, h7⟩ := h
  refine ⟨by omega, by rw [jup_ne (by omega)]; exact h2, fun j hj => ?_, fun i j hi hj he => ?_, fun s hs => ?_, fun j hj => ?_, by omega⟩
  · by_cases hjn : j = n
    · subst hjn; rw [jup_self]; exact hV
    · rw [jup_ne hjn]; exact h3 j (by omega)
  · by_cases hin : i = n <;> by_cases hjn : j = n
    · omega
    · rw [hin, jup_self, jup_ne hjn] at he; exact absurd he.symm (hno j (by omega))
    · rw [hjn, jup_self, jup_ne hin] at he; exact absurd he (hno i (by omega))
    · rw [jup_ne hin, jup_ne hjn] at he; exact h4 i j (by omega) (by omega) he
  · by_cases hst : s = t
    · subst hst; exact ⟨n, by omega, by rw [jup_self, jup_ne (by omega)]; exact hk⟩
    · obtain ⟨j, j1, j2⟩ := h5 s (by omega)
      exact ⟨j, by omega, by rw [jup_ne (by omega), jup_ne (by omega)]; exact j2⟩
  · by_cases hjn : j = n
    · subst hjn
      rw [jup_self]
      obtain ⟨w, w1, w2⟩ := h6 (t / 8) (by omega)
      refine ⟨w ++ [t % 8], fun c hc => ?_, ?_⟩
      · rcases List.mem_append.mp hc with z | z
        · exact w1 c z
        · rw [List.mem_singleton.mp z]; omega
      · rw [jkr_app, w2, hk]; rfl
    · rw [jup_ne hjn]; exact h6 j (by omega)
section JMR
variable (l : Launch) (D : va_G) (g : Nat × Nat) {X : ja_H}
set_option maxHeartbeats 8000000 in
set_option maxRecDepth 100000 in
theorem c_M_reach {V : Nat → Prop} {fi : Nat} {nxt : Nat → Nat → Nat} {acc : Nat → Bool} {s st gd tb li se el er cs ct : Nat → Int32} (h : jEr X s st gd tb li se el er cs ct) (hR : jRu l D g V fi nxt acc s st gd tb) :
    AMet l D g 4 0 0 m_M_reach [.ref 145] X (fun r X' => r = none ∧ ∃ (n : Nat) (key : Nat → Nat) (s' li' se' : Nat → Int32), jEr X' s' st gd tb li' se' el er cs ct ∧ s' 27 = nI n ∧ s' 29 = nI 1 ∧ (∀ j, j ≠ 27 → j ≠ 29 → s' j = s j) ∧ jRx V fi nxt (8 * n) n key ∧ (∀ i, i < n → li' i = nI (key i)) ∧ (∀ i, i < n → se' (key i) = nI (acc (key i)).toNat) ∧ jfr [145, 160, 161] X X') := by
  obtain ⟨v0, v1, v2, hX⟩ := hR
  refine ja_metK (by decide) rfl (Nat.le_of_ble_eq_true rfl) fun K hB hF => ?_
  have pl : ∀ k ∈ [145, 160, 161], k = 145 ∨ k = 160 ∨ k = 161 := fun k hk => by simpa using hk
  have f145 : ∀ (Y : ja_H) (c : ja_C), jfr [145, 160, 161] Y (Y.set 145 c) := fun Y c => (jset_fr Y 145 c).mono (fun k hk => by rw [List.mem_singleton.mp hk]; decide)
  have f160 : ∀ (Y : ja_H) (c : ja_C), jfr [145, 160, 161] Y (Y.set 160 c) := fun Y c => (jset_fr Y 160 c).mono (fun k hk => by rw [List.mem_singleton.mp hk]; decide)
  have f161 : ∀ (Y : ja_H) (c : ja_C), jfr [145, 160, 161] Y (Y.set 161 c) := fun Y c => (jset_fr Y 161 c).mono (fun k hk => by rw [List.mem_singleton.mp hk]; decide)
  have bt : ∀ b : Bool, nI (if b then 1 else 0) = nI b.toNat := fun b => by cases b <;> rfl
  -- behind the last
  have last : ∀ (n : Nat) (key : Nat → Nat) (s' li' se' : Nat → Int32) (Y : ja_H) (a b c d : Value), jEr Y s' st gd tb li' se' el er cs ct → s' 27 = nI n → (∀ j, j ≠ 27 → s' j = s j) → jRx V fi nxt (8 * n) n key → (∀ i, i < n → li' i = nI (key i)) → (∀ i, i < n → se' (key i) = nI (acc (key i)).toNat) → jfr [145, 160, 161] X Y → K 153 [.ref 145, a, b, c, d] [] Y 0 0 := by
    intro n key s' li' se' Y a b c d e1 e2 e3 e4 e5 e6 hf
    refine kw_aload_n hB M_reach_153 rfl ?_
    refine kw_iconst hB M_reach_154 (v := nI 1) (by decide) ?_
    refine km_put hB M_reach_155 e1.1 f_M_183 jw_M_29 (by decide) rfl rfl rfl ?_
    have hf2 := hf.tr (f145 Y (jMo (upd s' 29 (nI 1))))
    refine kw_vret hF rfl M_reach_158 ⟨rfl, n, key, _, li', se', e1.s_s, ?_, pk_us .., fun j h1 h2 => ?_, e4, e5, e6, hf2⟩ hf2.1
    · rw [pk_un (by decide)]; exact e2
    · rw [pk_un h2]; exact e3 j h1
  have outer : ∀ m i (n : Nat) (key : Nat → Nat) (s' li' se' : Nat → Int32) (Y : ja_H) (a : Int32) (c d : Value), i + m = 1536 → i ≤ n → jRx V fi nxt (8 * i) n key → jEr Y s' st gd tb li' se' el er cs ct → s' 27 = nI n → (∀ j, j ≠ 27 → s' j = s j) → (∀ i, i < n → li' i = nI (key i)) → (∀ i, i < n → se' (key i) = nI (acc (key i)).toNat) → (∀ k, k < 1536 → (∀ i, i < n → key i ≠ k) → se' k = -1) → jfr [145, 160, 161] X Y → K 60 [.ref 145, .int a, .int (nI i), c, d] [] Y 0 0 := by
    intro m
    induction m with
    | zero =>
      intro i n key s' li' se' Y a c d hi hin hj e1 e2 e3 e5 e6 e7 hf
      have hn := hj.le v2
      have e : i = n := by omega
      subst e
      refine kw_iload_n hB M_reach_60 rfl ?_
      refine kw_aload_n hB M_reach_61 rfl ?_
      refine kw_getf hB M_reach_62 f_M_174 e1.1 rfl ?_
      rw [e2]
      refine kn_icmp_ge hB M_reach_65 (by omega) (by omega) (fun hc => ?_) (fun hc => absurd hc (by omega))
      exact last i key s' li' se' Y _ _ _ _ e1 e2 e3 hj e5 e6 hf
    | succ m ih =>
      intro i n key s' li' se' Y a c d hi hin hj e1 e2 e3 e5 e6 e7 hf
      have hn := hj.le v2
      refine kw_iload_n hB M_reach_60 rfl ?_
      refine kw_aload_n hB M_reach_61 rfl ?_
      refine kw_getf hB M_reach_62 f_M_174 e1.1 rfl ?_
      rw [e2]
      refine kn_icmp_ge hB M_reach_65 (by omega) (by omega) (fun hc => ?_) (fun hc => ?_)
      · have e : i = n := by omega
        subst e
        exact last i key s' li' se' Y _ _ _ _ e1 e2 e3 hj e5 e6 hf
      · have inner : ∀ q t (n : Nat) (key : Nat → Nat) (s' li' se' : Nat → Int32) (Y : ja_H) (d : Value), t + q = 8 → i < n → jRx V fi nxt (8 * i + t) n key → jEr Y s' st gd tb li' se' el er cs ct → s' 27 = nI n → (∀ j, j ≠ 27 → s' j = s j) → (∀ i, i < n → li' i = nI (key i)) → (∀ i, i < n → se' (key i) = nI (acc (key i)).toNat) → (∀ k, k < 1536 → (∀ i, i < n → key i ≠ k) → se' k = -1) → jfr [145, 160, 161] X Y → K 70 [.ref 145, .int a, .int (nI i), .int (nI (t + 1)), d] [] Y 0 0 := by
          intro q
          induction q with
          | zero =>
            intro t n key s' li' se' Y d ht hin hj e1 e2 e3 e5 e6 e7 hf
            refine kw_iload_n hB M_reach_70 rfl ?_
            refine kw_bipush hB M_reach_71 (v := nI 8) (by decide) ?_
            refine kn_icmp_gt hB M_reach_73 (by omega) (by decide) (fun hc => ?_) (fun hc => absurd hc (by omega))
            refine kn_iinc hB M_reach_147 rfl (by decide) rfl ?_
            refine kw_goto hB M_reach_150 ?_
            rw [show 8 * i + t = 8 * (i + 1) by omega] at hj
            exact ih (i + 1) n key s' li' se' Y _ _ _ (by omega) (by omega) hj e1 e2 e3 e5 e6 e7 hf
          | succ q ihq =>
            intro t n key s' li' se' Y d ht hin hj e1 e2 e3 e5 e6 e7 hf
            have hn := hj.le v2
            have hVi := hj.2.2.1 i hin
            have hVk := v1 (key i) (t + 1) hVi (by omega) (by omega)
            have hkl := v2 _ hVk
            have hdiv : (8 * i + t) / 8 = i := by omega
            have hmod : (8 * i + t) % 8 + 1 = t + 1 := by omega
            obtain ⟨-, hk2, hk3⟩ := hX Y s' st gd tb e1.tr (fun j h1 h2 => e3 j (by omega)) (fun _ _ => rfl) (fun _ _ => rfl) (fun _ _ => rfl)
            refine kw_iload_n hB M_reach_70 rfl ?_
            refine kw_bipush hB M_reach_71 (v := nI 8) (by decide) ?_
            refine kn_icmp_gt hB M_reach_73 (by omega) (by decide) (fun hc => absurd hc (by omega)) (fun hc => ?_)
            refine kw_aload_n hB M_reach_76 rfl ?_
            refine kw_aload_n hB M_reach_77 rfl ?_
            refine kw_getf hB M_reach_78 f_M_53 e1.1 rfl ?_
            refine kw_iload_n hB M_reach_81 rfl ?_
            refine kn_iald hB M_reach_82 e1.2.2.2.2.1 rfl (by omega) (by decide) ?_
            rw [e5 i hin]
            refine kw_iload_n hB M_reach_83 rfl ?_
            refine kw_callV hB M_reach_84 s_M_180 im_M_next se_M_next e1.1 rfl rfl (As := [.int (nI (key i)), .int (nI (t + 1))]) (hk3 (key i) (t + 1) hVi (by omega) (by omega)) rfl (by decide) (Nat.le_of_ble_eq_true rfl) (by omega) (by omega) (fun r X1 hq hl => ?_)
            obtain ⟨rfl, hxeq⟩ := hq
            obtain rfl := hxeq.symm
            refine kw_istore hB M_reach_87 (by decide) rfl ?_
            refine kw_aload_n hB M_reach_89 rfl ?_
            refine kw_getf hB M_reach_90 f_M_56 e1.1 rfl ?_
            refine kw_iload hB M_reach_93 rfl ?_
            refine kn_iald hB M_reach_95 e1.2.2.2.2.2.1 rfl hkl (by decide) ?_
            by_cases hex : ∃ j, j < n ∧ key j = nxt (key i) (t + 1)
            · obtain ⟨j, hjn, hjk⟩ := hex
              have hs := e6 j hjn
              rw [hjk] at hs
              rw [hs]
              refine kw_if_ge hB M_reach_96 (fun hc => ?_) (fun hc => absurd (by cases acc (nxt (key i) (t + 1)) <;> decide) hc)
              refine kn_iinc hB M_reach_141 rfl (by decide) rfl ?_
              refine kw_goto hB M_reach_144 ?_
              exact ihq (t + 1) n key s' li' se' Y _ (by omega) hin (hj.old hjn (by omega) (by rw [hdiv, hmod]; exact hjk)) e1 e2 e3 e5 e6 e7 hf
            · have hno : ∀ j, j < n → key j ≠ nxt (key i) (t + 1) := fun j h1 h2 => hex ⟨j, h1, h2⟩
              rw [e7 _ hkl hno]
              have hj2 := hj.new (k := nxt (key i) (t + 1)) (by omega) (by rw [hdiv, hmod]) hVk hno
              have hn2 := hj2.le v2
              refine kw_if_ge hB M_reach_96 (fun hc => absurd hc (by decide)) (fun hc => ?_)
              refine kw_aload_n hB M_reach_99 rfl ?_
              refine kw_getf hB M_reach_100 f_M_56 e1.1 rfl ?_
              refine kw_iload hB M_reach_103 rfl ?_
              refine kw_aload_n hB M_reach_105 rfl ?_
              refine kw_iload hB M_reach_106 rfl ?_
              refine kw_callV hB M_reach_108 s_M_177 im_M_mayEnd se_M_mayEnd e1.1 rfl rfl (As := [.int (nI (nxt (key i) (t + 1)))]) (hk2 _ hVk) rfl (by decide) (Nat.le_of_ble_eq_true rfl) (by omega) (by omega) (fun r X1 hq hl => ?_)
              obtain ⟨rfl, hxeq⟩ := hq
              obtain rfl := hxeq.symm
              have tail : ∀ b : Bool, b = acc (nxt (key i) (t + 1)) → K 119 [.ref 145, .int a, .int (nI i), .int (nI (t + 1)), .int (nI (nxt (key i) (t + 1)))] [.int (nI b.toNat), .int (nI (nxt (key i) (t + 1))), .ref 161] Y 0 0 := by
                intro b hb
                refine kn_iast hB M_reach_119 e1.2.2.2.2.2.1 rfl hkl (by decide) ?_
                have g1 := e1.s_se (f' := upd se' (nxt (key i) (t + 1)) (nI b.toNat))
                have h1 := hf.tr (f161 Y (.inl (0, 1536, .inl (upd se' (nxt (key i) (t + 1)) (nI b.toNat)))))
                generalize Y.set 161 (.inl (0, 1536, .inl (upd se' (nxt (key i) (t + 1)) (nI b.toNat)))) = Y1 at g1 h1
                refine kw_aload_n hB M_reach_120 rfl ?_
                refine kw_getf hB M_reach_121 f_M_53 g1.1 rfl ?_
                refine kw_aload_n hB M_reach_124 rfl ?_
                refine kw_getf hB M_reach_125 f_M_174 g1.1 rfl ?_
                refine kw_iload hB M_reach_128 rfl ?_
                rw [e2]
                refine kn_iast hB M_reach_130 g1.2.2.2.2.1 rfl (by omega) (by decide) ?_
                have g2 := g1.s_li (f' := upd li' n (nI (nxt (key i) (t + 1))))
                have h2 := h1.tr (f160 Y1 (.inl (0, 1536, .inl (upd li' n (nI (nxt (key i) (t + 1)))))))
                generalize Y1.set 160 (.inl (0, 1536, .inl (upd li' n (nI (nxt (key i) (t + 1)))))) = Y2 at g2 h2
                refine kw_aload_n hB M_reach_131 rfl ?_
                refine kw_dup hB M_reach_132 rfl ?_
                refine kw_getf hB M_reach_133 f_M_174 g2.1 rfl ?_
                rw [e2]
                refine kw_iconst hB M_reach_136 (v := nI 1) (by decide) ?_
                refine kn_iadd hB M_reach_137 ?_
                refine km_put hB M_reach_138 g2.1 f_M_174 jw_M_27 (by decide) rfl rfl rfl ?_
                have g3 := g2.s_s (f' := upd s' 27 (nI (n + 1)))
                have h3 := h2.tr (f145 Y2 (jMo (upd s' 27 (nI (n + 1)))))
                refine kn_iinc hB M_reach_141 rfl (by decide) rfl ?_
                refine kw_goto hB M_reach_144 ?_
                refine ihq (t + 1) (n + 1) _ _ _ _ _ _ (by omega) (by omega) hj2 g3 (pk_us ..) (fun j h1 => by rw [pk_un h1]; exact e3 j h1) (fun i' hi' => ?_) (fun i' hi' => ?_) (fun k hk hkn => ?_) h3
                · by_cases hin' : i' = n
                  · subst hin'; rw [pk_us, jup_self]
                  · rw [pk_un hin', jup_ne hin']; exact e5 i' (by omega)
                · by_cases hin' : i' = n
                  · subst hin'; rw [jup_self, pk_us, hb]
                  · rw [jup_ne hin', pk_un (hno i' (by omega))]; exact e6 i' (by omega)
                · have h1 := hkn n (by omega)
                  rw [jup_self] at h1
                  rw [pk_un (fun z => h1 z.symm)]
                  exact e7 k hk (fun i' hi' => by have := hkn i' (by omega); rw [jup_ne (by omega)] at this; exact this)
              refine kn_if_eq hB M_reach_111 (by cases acc (nxt (key i) (t + 1)) <;> decide) (fun hz => ?_) (fun hz => ?_)
              · refine kw_iconst hB M_reach_118 (v := nI 0) (by decide) ?_
                exact tail false (jb_f hz).symm
              · refine kw_iconst hB M_reach_114 (v := nI 1) (by decide) ?_
                refine kw_goto hB M_reach_115 ?_
                exact tail true (jb_t hz).symm
        refine kw_iconst hB M_reach_68 (v := nI 1) (by decide) ?_
        refine kw_istore_n hB M_reach_69 rfl (by decide) rfl ?_
        exact inner 8 0 n key s' li' se' Y _ (by omega) hc hj e1 e2 e3 e5 e6 e7 hf
  -- the row of signs is wiped
  have wipe : ∀ m i (se' : Nat → Int32) (Y : ja_H) (b c d : Value), i + m = 1536 → jEr Y s st gd tb li se' el er cs ct → (∀ k, k < i → se' k = -1) → jfr [145, 160, 161] X Y → K 2 [.ref 145, .int (nI i), b, c, d] [] Y 0 0 := by
    intro m
    induction m with
    | zero =>
      intro i se' Y b c d hi e1 e7 hf
      refine kw_iload_n hB M_reach_2 rfl ?_
      refine kw_sipush hB M_reach_3 (v := nI 1536) (by decide) ?_
      refine kn_icmp_ge hB M_reach_6 (by omega) (by decide) (fun hc => ?_) (fun hc => absurd hc (by omega))
      obtain ⟨hk1, hk2, -⟩ := hX Y s st gd tb e1.tr (fun _ _ _ => rfl) (fun _ _ => rfl) (fun _ _ => rfl) (fun _ _ => rfl)
      refine kw_aload_n hB M_reach_22 rfl ?_
      refine kw_callV hB M_reach_23 s_M_170 im_M_first se_M_first e1.1 rfl rfl (As := []) (hk1) rfl (by decide) (Nat.le_of_ble_eq_true rfl) (by omega) (by omega) (fun r X1 hq hl => ?_)
      obtain ⟨rfl, hxeq⟩ := hq
      obtain rfl := hxeq.symm
      have hfl := v2 _ v0
      refine kw_istore_n hB M_reach_26 rfl (by decide) rfl ?_
      refine kw_aload_n hB M_reach_27 rfl ?_
      refine kw_getf hB M_reach_28 f_M_53 e1.1 rfl ?_
      refine kw_iconst hB M_reach_31 (v := nI 0) (by decide) ?_
      refine kw_iload_n hB M_reach_32 rfl ?_
      refine kn_iast hB M_reach_33 e1.2.2.2.2.1 rfl (by decide) (by decide) ?_
      have g1 := e1.s_li (f' := upd li 0 (nI fi))
      have h1 := hf.tr (f160 Y (.inl (0, 1536, .inl (upd li 0 (nI fi)))))
      generalize Y.set 160 (.inl (0, 1536, .inl (upd li 0 (nI fi)))) = Y1 at g1 h1
      refine kw_aload_n hB M_reach_34 rfl ?_
      refine kw_iconst hB M_reach_35 (v := nI 1) (by decide) ?_
      refine km_put hB M_reach_36 g1.1 f_M_174 jw_M_27 (by decide) rfl rfl rfl ?_
      have g2 := g1.s_s (f' := upd s 27 (nI 1))
      have h2 := h1.tr (f145 Y1 (jMo (upd s 27 (nI 1))))
      generalize Y1.set 145 (jMo (upd s 27 (nI 1))) = Y2 at g2 h2
      obtain ⟨-, hk2, -⟩ := hX Y2 (upd s 27 (nI 1)) st gd tb g2.tr (fun j h1 h2 => pk_un (by omega)) (fun _ _ => rfl) (fun _ _ => rfl) (fun _ _ => rfl)
      refine kw_aload_n hB M_reach_39 rfl ?_
      refine kw_getf hB M_reach_40 f_M_56 g2.1 rfl ?_
      refine kw_iload_n hB M_reach_43 rfl ?_
      refine kw_aload_n hB M_reach_44 rfl ?_
      refine kw_iload_n hB M_reach_45 rfl ?_
      refine kw_callV hB M_reach_46 s_M_177 im_M_mayEnd se_M_mayEnd g2.1 rfl rfl (As := [.int (nI fi)]) (hk2 fi v0) rfl (by decide) (Nat.le_of_ble_eq_true rfl) (by omega) (by omega) (fun r X1 hq hl => ?_)
      obtain ⟨rfl, hxeq⟩ := hq
      obtain rfl := hxeq.symm
      have tail : ∀ b0 : Bool, b0 = acc fi → K 57 [.ref 145, .int (nI fi), b, c, d] [.int (nI b0.toNat), .int (nI fi), .ref 161] Y2 0 0 := by
        intro b0 hb0
        refine kn_iast hB M_reach_57 g2.2.2.2.2.2.1 rfl hfl (by decide) ?_
        have g3 := g2.s_se (f' := upd se' fi (nI b0.toNat))
        have h3 := h2.tr (f161 Y2 (.inl (0, 1536, .inl (upd se' fi (nI b0.toNat)))))
        refine kw_iconst hB M_reach_58 (v := nI 0) (by decide) ?_
        refine kw_istore_n hB M_reach_59 rfl (by decide) rfl ?_
        refine outer 1536 0 1 (fun _ => fi) _ _ _ _ _ _ _ (by omega) (by omega) ⟨by omega, rfl, fun _ _ => v0, fun i j hi hj _ => by omega, fun s hs => absurd hs (by omega), fun j _ => ⟨[], fun _ z => (by cases z), rfl⟩, by omega⟩ g3 (pk_us ..) (fun j h1 => pk_un h1) (fun i' hi' => ?_) (fun i' hi' => by rw [pk_us, hb0]) (fun k hk hkn => ?_) h3
        · rw [show i' = 0 by omega, pk_us]
        · rw [pk_un (fun z => hkn 0 (by omega) z.symm)]
          exact e7 k (by omega)
      refine kn_if_eq hB M_reach_49 (by cases acc fi <;> decide) (fun hz => ?_) (fun hz => ?_)
      · refine kw_iconst hB M_reach_56 (v := nI 0) (by decide) ?_
        exact tail false (jb_f hz).symm
      · refine kw_iconst hB M_reach_52 (v := nI 1) (by decide) ?_
        refine kw_goto hB M_reach_53 ?_
        exact tail true (jb_t hz).symm
    | succ m ih =>
      intro i se' Y b c d hi e1 e7 hf
      refine kw_iload_n hB M_reach_2 rfl ?_
      refine kw_sipush hB M_reach_3 (v := nI 1536) (by decide) ?_
      refine kn_icmp_ge hB M_reach_6 (by omega) (by decide) (fun hc => absurd hc (by omega)) (fun hc => ?_)
      refine kw_aload_n hB M_reach_9 rfl ?_
      refine kw_getf hB M_reach_10 f_M_56 e1.1 rfl ?_
      refine kw_iload_n hB M_reach_13 rfl ?_
      refine kw_iconst hB M_reach_14 (v := -1) (by decide) ?_
      refine kn_iast hB M_reach_15 e1.2.2.2.2.2.1 rfl (by omega) (by decide) ?_
      refine kn_iinc hB M_reach_16 rfl (by decide) rfl ?_
      refine kw_goto hB M_reach_19 ?_
      refine ih (i + 1) _ _ _ _ _ (by omega) (e1.s_se (f' := upd se' i (-1))) (fun k hk => ?_) (hf.tr (f161 Y _))
      by_cases hki : k = i
      · subst hki; rw [pk_us]
      · rw [pk_un hki]; exact e7 k (by omega)
  refine kw_iconst hB M_reach_0 (v := nI 0) (by decide) ?_
  refine kw_istore_n hB M_reach_1 rfl (by decide) rfl ?_
  exact wipe 1536 0 se X _ _ _ (by omega) h (fun k hk => absurd hk (by omega)) (jfr.rf _ _)
end JMR
