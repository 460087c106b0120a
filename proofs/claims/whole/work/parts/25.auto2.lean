-- Automaton: explore
theorem jnar (b : Bool) : vp_nar .boolean (nI b.toNat) = nI b.toNat := by cases b <;> decide
theorem jup_ne {α : Type} {f : Nat → α} {k j : Nat} {v : α} (h : j ≠ k) : va_up f k v j = f j := if_neg h
theorem jup_self {α : Type} {f : Nat → α} {k : Nat} {v : α} : va_up f k v k = v := if_pos rfl
abbrev jUf : MethodName := ⟨"TaintScanner$Rule", "firstKey", "()I"⟩
abbrev jUg : MethodName := ⟨"TaintScanner$Rule", "isGoodKey", "(I)Z"⟩
abbrev jUk : MethodName := ⟨"TaintScanner$Rule", "keyAfter", "(II)I"⟩
/-- the rule at rq, over heaps that differ from X in the automaton's cells alone: a first key, keys after letters, good keys, all within V -/
def jRl (l : Launch) (D : va_G) (g : Nat × Nat) (b : Nat) (X : ja_H) (rq : Nat) (V : Nat → Prop) (fi : Nat) (nxt : Nat → Nat → Nat) (acc : Nat → Bool) : Prop :=
  ∃ (ci d1 d2 d3 : Nat) (r0 : vw_C) (M1 M2 M3 : ja_M), ja_cl[ci]? = some r0 ∧ ja_abs "TaintScanner$Automaton" 52 jUf r0.1 "TaintScanner$Rule" M1 0 ∧ ja_abs "TaintScanner$Automaton" 62 jUg r0.1 "TaintScanner$Rule" M2 1 ∧ ja_abs "TaintScanner$Automaton" 66 jUk r0.1 "TaintScanner$Rule" M3 2 ∧ d1 ≤ 2 ∧ d2 ≤ 2 ∧ d3 ≤ 2 ∧
  V fi ∧ (∀ k c, V k → 1 ≤ c → c ≤ 8 → V (nxt k c)) ∧ (∀ k, V k → k < 1536) ∧
  ∀ X', jfr (jBS b) X X' → (∃ fs, X'[rq]? = some (.inr (ci, fs))) ∧ AMet l D g d1 0 0 M1 [.ref rq] X' (fun r Y => r = some (.int (nI fi)) ∧ Y = X') ∧ (∀ k, V k → AMet l D g d2 0 0 M2 [.ref rq, .int (nI k)] X' (fun r Y => r = some (.int (nI (acc k).toNat)) ∧ Y = X')) ∧ (∀ k c, V k → 1 ≤ c → c ≤ 8 → AMet l D g d3 0 0 M3 [.ref rq, .int (nI k), .int (nI c)] X' (fun r Y => r = some (.int (nI (nxt k c))) ∧ Y = X'))
/-- t ways of n states are written; state j is reached first by the way e j -/
def jX (V : Nat → Prop) (fi : Nat) (nxt : Nat → Nat → Nat) (t n : Nat) (key δ e : Nat → Nat) (nx ky so en : Nat → Int32) : Prop :=
  1 ≤ n ∧ key 0 = fi ∧ (∀ j, j < n → V (key j)) ∧ (∀ i j, i < n → j < n → key i = key j → i = j) ∧ (∀ j, j < n → ky j = nI (key j)) ∧ (∀ j, j < n → so (key j) = nI j) ∧ (∀ k, k < 1536 → (∀ j, j < n → key j ≠ k) → so k = -1) ∧
  (∀ s, s < t → nx s = nI (δ s) ∧ δ s < n ∧ key (δ s) = nxt (key (s / 8)) (s % 8 + 1)) ∧ (∀ j, 1 ≤ j → j < n → en j = nI (e j) ∧ e j < t ∧ δ (e j) = j ∧ (∀ s, s < e j → δ s < j) ∧ e j < 8 * j) ∧ t ≤ 8 * n
theorem jX.old {V : Nat → Prop} {fi : Nat} {nxt : Nat → Nat → Nat} {t n : Nat} {key δ e : Nat → Nat} {nx ky so en : Nat → Int32} (h : jX V fi nxt t n key δ e nx ky so en) {j : Nat} (hj : j < n) (ht : t < 8 * n) (hk : key j = nxt (key (t / 8)) (t % 8 + 1)) : jX V fi nxt (t + 1) n key (va_up δ t j) e (upd nx t (nI j)) ky so en := by
  obtain ⟨h1, h2, h3, h4, h5, h6, h7, h8, h9, h10⟩ := h
  refine ⟨h1, h2, h3, h4, h5, h6, h7, fun s hs => ?_, fun i hi hin => ?_, by omega⟩
  · by_cases hst : s = t
    · subst hst
      rw [pk_us, jup_self]
      exact ⟨rfl, hj, hk⟩
    · rw [pk_un hst, jup_ne hst]
      exact h8 s (by omega)
  · obtain ⟨a1, a2, a3, a4, a5⟩ := h9 i hi hin
    refine ⟨a1, by omega, by rw [jup_ne (by omega)]; exact a3, fun s hs => ?_, a5⟩
    rw [jup_ne (by omega)]
    exact a4 s hs
theorem jX.new {V : Nat → Prop} {fi : Nat} {nxt : Nat → Nat → Nat} {t n k : Nat} {key δ e : Nat → Nat} {nx ky so en : Nat → Int32} (h : jX V fi nxt t n key δ e nx ky so en) (ht : t < 8 * n) (hk : k = nxt (key (t / 8)) (t % 8 + 1)) (hV : V k) (hno : ∀ j, j < n → key j ≠ k) : jX V fi nxt (t + 1) (n + 1) (va_up key n k) (va_up δ t n) (va_up e n t) (upd nx t (nI n)) (upd ky n (nI k)) (upd so k (nI n)) (upd en n (nI t)) := by
  obtain ⟨h1, h2, h3, h4, h5, h6, h7, h8, h9, h10⟩ := h
  refine ⟨by omega, by rw [jup_ne (by omega)]; exact h2, fun j hj => ?_, fun i j hi hj he => ?_, fun j hj => ?_, fun j hj => ?_, fun k' hk' hno' => ?_, fun s hs => ?_, fun i hi hin => ?_, by omega⟩
  · by_cases hjn : j = n
    · subst hjn; rw [jup_self]; exact hV
    · rw [jup_ne hjn]; exact h3 j (by omega)
  · by_cases hin : i = n <;> by_cases hjn : j = n
    · omega
    · rw [hin, jup_self, jup_ne hjn] at he
      exact absurd he.symm (hno j (by omega))
    · rw [hjn, jup_self, jup_ne hin] at he
      exact absurd he (hno i (by omega))
    · rw [jup_ne hin, jup_ne hjn] at he
      exact h4 i j (by omega) (by omega) he
  · by_cases hjn : j = n
    · subst hjn; rw [pk_us, jup_self]
    · rw [pk_un hjn, jup_ne hjn]; exact h5 j (by omega)
  · by_cases hjn : j = n
    · subst hjn; rw [jup_self, pk_us]
    · rw [jup_ne hjn, pk_un (hno j (by omega))]; exact h6 j (by omega)
  · have hkk : k' ≠ k := fun z => by
      have := hno' n (by omega)
      rw [jup_self] at this
      exact this z.symm
    rw [pk_un hkk]
    refine h7 k' hk' (fun j hj => ?_)
    have := hno' j (by omega)
    rw [jup_ne (by omega)] at this
    exact this
  · by_cases hst : s = t
    · subst hst
      rw [pk_us, jup_self, jup_self, jup_ne (by omega)]
      exact ⟨rfl, by omega, hk⟩
    · obtain ⟨a1, a2, a3⟩ := h8 s (by omega)
      rw [pk_un hst, jup_ne hst, jup_ne (by omega), jup_ne (by omega)]
      exact ⟨a1, by omega, a3⟩
  · by_cases hjn : i = n
    · subst hjn
      rw [pk_us, jup_self, jup_self]
      refine ⟨rfl, by omega, rfl, fun s hs => ?_, ht⟩
      rw [jup_ne (by omega)]
      exact (h8 s hs).2.1
    · obtain ⟨a1, a2, a3, a4, a5⟩ := h9 i hi (by omega)
      rw [pk_un hjn, jup_ne hjn, jup_ne (by omega)]
      refine ⟨a1, by omega, a3, fun s hs => ?_, a5⟩
      rw [jup_ne (by omega)]
      exact a4 s hs
theorem jX.le {V : Nat → Prop} {fi : Nat} {nxt : Nat → Nat → Nat} {t n : Nat} {key δ e : Nat → Nat} {nx ky so en : Nat → Int32} (h : jX V fi nxt t n key δ e nx ky so en) (hV : ∀ k, V k → k < 1536) : n ≤ 1536 := jpig 1536 key n (fun i hi => hV _ (h.2.2.1 i hi)) h.2.2.2.1
theorem jX.room {V : Nat → Prop} {fi : Nat} {nxt : Nat → Nat → Nat} {t n k : Nat} {key δ e : Nat → Nat} {nx ky so en : Nat → Int32} (h : jX V fi nxt t n key δ e nx ky so en) (hV : ∀ k, V k → k < 1536) (hk : k < 1536) (hno : ∀ j, j < n → key j ≠ k) : n < 1536 := by
  have := jpig 1536 (va_up key n k) (n + 1) (fun i hi => ?_) (fun i j hi hj he => ?_)
  · omega
  · by_cases hin : i = n
    · subst hin; rw [jup_self]; exact hk
    · rw [jup_ne hin]; exact hV _ (h.2.2.1 i (by omega))
  · by_cases hin : i = n <;> by_cases hjn : j = n
    · omega
    · rw [hin, jup_self, jup_ne hjn] at he
      exact absurd he.symm (hno j (by omega))
    · rw [hjn, jup_self, jup_ne hin] at he
      exact absurd he (hno i (by omega))
    · rw [jup_ne hin, jup_ne hjn] at he
      exact h.2.2.2.1 i j (by omega) (by omega) he
/-- the row of states by keys, wiped for the first i states -/
def jrs (so : Nat → Int32) (key : Nat → Nat) : Nat → Nat → Int32
  | 0 => so
  | i + 1 => upd (jrs so key i) (key i) (-1)
theorem jrs_at (so : Nat → Int32) (key : Nat → Nat) (k : Nat) : ∀ i, jrs so key i k = -1 ∨ (jrs so key i k = so k ∧ ∀ j, j < i → key j ≠ k) := by
  intro i
  induction i with
  | zero => exact Or.inr ⟨rfl, fun j hj => absurd hj (by omega)⟩
  | succ i ih =>
    rw [jrs]
    by_cases hk : k = key i
    · subst hk; rw [pk_us]; exact Or.inl rfl
    · rw [pk_un hk]
      rcases ih with h | ⟨h1, h2⟩
      · exact Or.inl h
      · refine Or.inr ⟨h1, fun j hj => ?_⟩
        by_cases hji : j = i
        · subst hji; exact fun z => hk z.symm
        · exact h2 j (by omega)
section JB2
variable (l : Launch) (D : va_G) (g : Nat × Nat) {X : ja_H}
set_option maxHeartbeats 8000000 in
set_option maxRecDepth 100000 in
theorem c_B_explore {b rq fi : Nat} {V : Nat → Prop} {nxt : Nat → Nat → Nat} {acc : Nat → Bool} {ct : Int32} {nx gd ky so en kd fk : Nat → Int32} {lk : Nat → Int64} (h : jBr X b ct nx gd ky so en kd fk lk) (hso : ∀ k, k < 1536 → so k = -1) (hR : jRl l D g b X rq V fi nxt acc) :
    AMet l D g 3 0 0 m_B_explore [.ref b, .ref rq] X (fun r X' => r = none ∧ jfr (jBS b) X X' ∧ ∃ (n : Nat) (key δ e : Nat → Nat) (nx' gd' ky' so' so2 en' : Nat → Int32), jBr X' b (nI n) nx' gd' ky' so' en' kd fk lk ∧ (∀ k, k < 1536 → so' k = -1) ∧ n ≤ 1536 ∧ jX V fi nxt (8 * n) n key δ e nx' ky' so2 en' ∧ ∀ i, i < n → gd' i = nI (acc (key i)).toNat) := by
  obtain ⟨ci, d1, d2, d3, r0, M1, M2, M3, hcl, a1, a2, a3, hd1, hd2, hd3, v0, v1, v2, hX⟩ := hR
  refine ja_metK (by decide) rfl (Nat.le_of_ble_eq_true rfl) fun K hB hF => ?_
  -- the last loop
  have wipe : ∀ (n : Nat) (key δ e : Nat → Nat) (nx gd ky so en : Nat → Int32), n ≤ 1536 → jX V fi nxt (8 * n) n key δ e nx ky so en → (∀ i, i < n → gd i = nI (acc (key i)).toNat) → ∀ m i (Y : ja_H) (u w : Value), i + m = n → jBr Y b (nI n) nx gd ky (jrs so key i) en kd fk lk → jfr (jBS b) X Y → K 104 [.ref b, .ref rq, .int (nI i), u, w] [] Y 0 0 := by
    intro n key δ e nx gd ky so en hn hj hg m
    induction m with
    | zero =>
      intro i Y u w hi hb hf
      refine kw_iload_n hB B_explore_104 rfl ?_
      refine kw_aload_n hB B_explore_105 rfl ?_
      refine kw_getf hB B_explore_106 f_B_48 hb.1 rfl ?_
      refine kn_icmp_ge hB B_explore_109 (by omega) (by omega) (fun hc => ?_) (fun hc => absurd hc (by omega))
      refine kw_vret hF rfl B_explore_130 ?_ (by rw [hf.1]; rfl)
      refine ⟨rfl, hf, n, key, δ, e, nx, gd, ky, jrs so key i, so, en, hb, fun k hk => ?_, hn, hj, hg⟩
      rcases jrs_at so key k i with z | ⟨z1, z2⟩
      · exact z
      · rw [z1]; exact hj.2.2.2.2.2.2.1 k hk (fun j hjn => z2 j (by omega))
    | succ m ih =>
      intro i Y u w hi hb hf
      have hkl := v2 _ (hj.2.2.1 i (by omega))
      refine kw_iload_n hB B_explore_104 rfl ?_
      refine kw_aload_n hB B_explore_105 rfl ?_
      refine kw_getf hB B_explore_106 f_B_48 hb.1 rfl ?_
      refine kn_icmp_ge hB B_explore_109 (by omega) (by omega) (fun hc => absurd hc (by omega)) (fun hc => ?_)
      refine kw_aload_n hB B_explore_112 rfl ?_
      refine kw_getf hB B_explore_113 f_B_26 hb.1 rfl ?_
      refine kw_aload_n hB B_explore_116 rfl ?_
      refine kw_getf hB B_explore_117 f_B_23 hb.1 rfl ?_
      refine kw_iload_n hB B_explore_120 rfl ?_
      refine kn_iald hB B_explore_121 hb.2.2.2.1 rfl (by omega) (by first | decide | omega) ?_
      refine kw_iconst hB B_explore_122 (v := -1) (by decide) ?_
      rw [hj.2.2.2.2.1 i (by omega)]
      refine kn_iast hB B_explore_123 hb.2.2.2.2.1 rfl hkl (by decide) ?_
      have hb1 := hb.s_so (f' := upd (jrs so key i) (key i) (-1))
      have hf1 := hf.tr (jBS_set Y b 4 (.inl (0, 1536, .inl (upd (jrs so key i) (key i) (-1)))) (by decide))
      refine kn_iinc hB B_explore_124 rfl (by decide) rfl ?_
      refine kw_goto hB B_explore_127 ?_
      exact ih (i + 1) _ u w (by omega) hb1 hf1
  -- the states one by one
  have outer : ∀ m i (n : Nat) (key δ e : Nat → Nat) (nx gd ky so en : Nat → Int32) (Y : ja_H) (u w : Value), i + m = 1536 → i ≤ n → jX V fi nxt (8 * i) n key δ e nx ky so en → (∀ s, s < i → gd s = nI (acc (key s)).toNat) → jBr Y b (nI n) nx gd ky so en kd fk lk → jfr (jBS b) X Y → K 17 [.ref b, .ref rq, .int (nI i), u, w] [] Y 0 0 := by
    intro m
    induction m with
    | zero =>
      intro i n key δ e nx gd ky so en Y u w hi hin hj hg hb hf
      have hn := hj.le v2
      have e1 : i = n := by omega
      subst e1
      refine kw_iload_n hB B_explore_17 rfl ?_
      refine kw_aload_n hB B_explore_18 rfl ?_
      refine kw_getf hB B_explore_19 f_B_48 hb.1 rfl ?_
      refine kn_icmp_ge hB B_explore_22 (by omega) (by omega) (fun hc => ?_) (fun hc => absurd hc (by omega))
      refine kw_iconst hB B_explore_102 (v := nI 0) (by decide) ?_
      refine kw_istore_n hB B_explore_103 rfl (by decide) rfl ?_
      exact wipe i key δ e nx gd ky so en hn hj hg i 0 Y u w (by omega) hb hf
    | succ m ih =>
      intro i n key δ e nx gd ky so en Y u w hi hin hj hg hb hf
      have hn := hj.le v2
      refine kw_iload_n hB B_explore_17 rfl ?_
      refine kw_aload_n hB B_explore_18 rfl ?_
      refine kw_getf hB B_explore_19 f_B_48 hb.1 rfl ?_
      refine kn_icmp_ge hB B_explore_22 (by omega) (by omega) (fun hc => ?_) (fun hc => ?_)
      · have e1 : i = n := by omega
        subst e1
        refine kw_iconst hB B_explore_102 (v := nI 0) (by decide) ?_
        refine kw_istore_n hB B_explore_103 rfl (by decide) rfl ?_
        exact wipe i key δ e nx gd ky so en hn hj hg i 0 Y u w (by omega) hb hf
      · have hVi := hj.2.2.1 i hc
        have inner : ∀ q t (n : Nat) (key δ e : Nat → Nat) (nx gd ky so en : Nat → Int32) (Y : ja_H) (w : Value), t + q = 8 → i < n → jX V fi nxt (8 * i + t) n key δ e nx ky so en → (∀ s, s < i + 1 → gd s = nI (acc (key s)).toNat) → jBr Y b (nI n) nx gd ky so en kd fk lk → jfr (jBS b) X Y → K 50 [.ref b, .ref rq, .int (nI i), .int (nI (t + 1)), w] [] Y 0 0 := by
          intro q
          induction q with
          | zero =>
            intro t n key δ e nx gd ky so en Y w ht hin hj hg hb hf
            refine kw_iload_n hB B_explore_50 rfl ?_
            refine kw_bipush hB B_explore_51 (v := nI 8) (by decide) ?_
            refine kn_icmp_gt hB B_explore_53 (by omega) (by decide) (fun hc => ?_) (fun hc => absurd hc (by omega))
            refine kn_iinc hB B_explore_96 rfl (by decide) rfl ?_
            refine kw_goto hB B_explore_99 ?_
            rw [show 8 * i + t = 8 * (i + 1) by omega] at hj
            exact ih (i + 1) n key δ e nx gd ky so en Y _ w (by omega) (by omega) hj hg hb hf
          | succ q ihq =>
            intro t n key δ e nx gd ky so en Y w ht hin hj hg hb hf
            have hVi := hj.2.2.1 i hin
            have hn := hj.le v2
            obtain ⟨⟨fs, hrq⟩, -, -, hk3⟩ := hX Y hf
            refine kw_iload_n hB B_explore_50 rfl ?_
            refine kw_bipush hB B_explore_51 (v := nI 8) (by decide) ?_
            refine kn_icmp_gt hB B_explore_53 (by omega) (by decide) (fun hc => absurd hc (by omega)) (fun hc => ?_)
            refine kw_iload_n hB B_explore_56 rfl ?_
            refine kw_bipush hB B_explore_57 (v := nI 8) (by decide) ?_
            refine kn_imul hB B_explore_59 ?_
            refine kw_iload_n hB B_explore_60 rfl ?_
            refine kn_iadd hB B_explore_61 ?_
            refine kw_iconst hB B_explore_62 (v := nI 1) (by decide) ?_
            refine kn_isub hB B_explore_63 (by omega) ?_
            refine kw_istore hB B_explore_64 (by decide) rfl ?_
            refine kw_aload_n hB B_explore_66 rfl ?_
            refine kw_getf hB B_explore_67 f_B_15 hb.1 rfl ?_
            refine kw_iload hB B_explore_70 rfl ?_
            refine kw_aload_n hB B_explore_72 rfl ?_
            refine kw_aload_n hB B_explore_73 rfl ?_
            refine kw_aload_n hB B_explore_74 rfl ?_
            refine kw_getf hB B_explore_75 f_B_23 hb.1 rfl ?_
            refine kw_iload_n hB B_explore_78 rfl ?_
            refine kn_iald hB B_explore_79 hb.2.2.2.1 rfl (by omega) (by first | decide | omega) ?_
            refine kw_iload_n hB B_explore_80 rfl ?_
            rw [hj.2.2.2.2.1 i hin, show i * 8 + (t + 1) - 1 = 8 * i + t by omega]
            refine kw_callA hB B_explore_81 a3 hrq hcl (As := [.int (nI (key i)), .int (nI (t + 1))]) (hk3 (key i) (t + 1) hVi (by omega) (by omega)) rfl (by omega) (Nat.le_of_ble_eq_true rfl) (by omega) (by omega) (fun r X1 hq hl => ?_)
            obtain ⟨rfl, rfl⟩ := hq
            have hVk := v1 (key i) (t + 1) hVi (by omega) (by omega)
            have hkl := v2 _ hVk
            refine kw_iload hB B_explore_84 rfl ?_
            have hdiv : (8 * i + t) / 8 = i := by omega
            have hmod : (8 * i + t) % 8 + 1 = t + 1 := by omega
            refine kw_callV hB B_explore_86 s_B_58 im_B_reach se_B_reach hb.1 rfl rfl (As := [.int (nI (nxt (key i) (t + 1))), .int (nI (8 * i + t))]) (c_B_reach l D g hb hkl (fun hz => hj.room v2 hkl (fun j hjn z => ?_))) rfl (by decide) (Nat.le_of_ble_eq_true rfl) (by omega) (by omega) (fun r X2 hq hl2 => ?_)
            · have := hj.2.2.2.2.2.1 j hjn
              rw [z] at this
              exact jb_ne1 (a := j) (by omega) (this.symm.trans hz)
            · obtain ⟨hold, hnew⟩ := hq
              by_cases hz : so (nxt (key i) (t + 1)) = -1
              · obtain ⟨rfl, hb2, hf2⟩ := hnew hz
                have hno : ∀ j, j < n → key j ≠ nxt (key i) (t + 1) := fun j hjn z => by
                  have := hj.2.2.2.2.2.1 j hjn
                  rw [z] at this
                  exact jb_ne1 (a := j) (by omega) (this.symm.trans hz)
                have hj2 := hj.new (k := nxt (key i) (t + 1)) (by omega) (by rw [hdiv, hmod]) hVk hno
                refine kn_iast hB B_explore_89 hb2.2.1 rfl (by omega) (by decide) ?_
                have hb3 := hb2.s_nx (f' := upd nx (8 * i + t) (nI n))
                have hf3 := (hf.tr hf2).tr (jBS_set X2 b 1 (.inl (0, 12288, .inl (upd nx (8 * i + t) (nI n)))) (by decide))
                refine kn_iinc hB B_explore_90 rfl (by decide) rfl ?_
                refine kw_goto hB B_explore_93 ?_
                refine ihq (t + 1) (n + 1) _ _ _ _ _ _ _ _ _ _ (by omega) (by omega) hj2 (fun s hs => ?_) hb3 hf3
                rw [jup_ne (by omega)]
                exact hg s hs
              · obtain ⟨rfl, rfl⟩ := hold hz
                have hex : ∃ j, j < n ∧ key j = nxt (key i) (t + 1) := Classical.byContradiction fun hh => hz (hj.2.2.2.2.2.2.1 _ hkl (fun j hjn z => hh ⟨j, hjn, z⟩))
                obtain ⟨j, hjn, hjk⟩ := hex
                have hsoj := hj.2.2.2.2.2.1 j hjn
                rw [hjk] at hsoj
                rw [hsoj]
                have hj2 := hj.old hjn (by omega) (by rw [hdiv, hmod]; exact hjk)
                refine kn_iast hB B_explore_89 hb.2.1 rfl (by omega) (by decide) ?_
                have hb3 := hb.s_nx (f' := upd nx (8 * i + t) (nI j))
                have hf3 := hf.tr (jBS_set _ b 1 (.inl (0, 12288, .inl (upd nx (8 * i + t) (nI j)))) (by decide))
                refine kn_iinc hB B_explore_90 rfl (by decide) rfl ?_
                refine kw_goto hB B_explore_93 ?_
                exact ihq (t + 1) n key _ e _ gd ky so en _ _ (by omega) hin hj2 hg hb3 hf3
        refine kw_iload_n hB B_explore_25 rfl ?_
        refine kw_sipush hB B_explore_26 (v := nI 1536) (by decide) ?_
        refine kn_icmp_ge hB B_explore_29 (by omega) (by decide) (fun hc2 => absurd hc2 (by omega)) (fun _ => ?_)
        refine kw_aload_n hB B_explore_32 rfl ?_
        refine kw_getf hB B_explore_33 f_B_19 hb.1 rfl ?_
        refine kw_iload_n hB B_explore_36 rfl ?_
        refine kw_aload_n hB B_explore_37 rfl ?_
        refine kw_aload_n hB B_explore_38 rfl ?_
        refine kw_getf hB B_explore_39 f_B_23 hb.1 rfl ?_
        refine kw_iload_n hB B_explore_42 rfl ?_
        refine kn_iald hB B_explore_43 hb.2.2.2.1 rfl (by omega) (by first | decide | omega) ?_
        rw [hj.2.2.2.2.1 i hc]
        obtain ⟨⟨fs, hrq⟩, -, hk2, -⟩ := hX Y hf
        refine kw_callA hB B_explore_44 a2 hrq hcl (As := [.int (nI (key i))]) (hk2 (key i) hVi) rfl (by omega) (Nat.le_of_ble_eq_true rfl) (by omega) (by omega) (fun r X1 hq hl => ?_)
        obtain ⟨rfl, rfl⟩ := hq
        refine kn_zast hB B_explore_47 hb.2.2.1 rfl (by omega) (by decide) ?_
        rw [jnar]
        have hb1 := hb.s_gd (f' := upd gd i (nI (acc (key i)).toNat))
        have hf1 := hf.tr (jBS_set _ b 2 (.inl (2, 1536, .inl (upd gd i (nI (acc (key i)).toNat)))) (by decide))
        refine kw_iconst hB B_explore_48 (v := nI 1) (by decide) ?_
        refine kw_istore_n hB B_explore_49 rfl (by decide) rfl ?_
        refine inner 8 0 n key δ e nx _ ky so en _ w (by omega) hc hj (fun s hs => ?_) hb1 hf1
        by_cases hsi : s = i
        · subst hsi; rw [pk_us]
        · rw [pk_un hsi]; exact hg s (by omega)
  refine kw_aload_n hB B_explore_0 rfl ?_
  refine kw_iconst hB B_explore_1 (v := nI 0) (by decide) ?_
  refine kw_putf hB B_explore_2 f_B_48 jc_B jw_B_0 h.1 (Nat.le_of_ble_eq_true rfl) rfl rfl ?_
  have h1 := h.s_ct (ct' := nI 0)
  have f1 := jBS_set X b 0 (.inr (2, [.int (nI 0), .ref (b + 1), .ref (b + 2), .ref (b + 3), .ref (b + 4), .ref (b + 5), .ref (b + 6), .ref (b + 7), .ref (b + 8)])) (by decide)
  show K 5 _ _ (X.set b (.inr (2, [.int (nI 0), .ref (b + 1), .ref (b + 2), .ref (b + 3), .ref (b + 4), .ref (b + 5), .ref (b + 6), .ref (b + 7), .ref (b + 8)]))) _ _
  rw [Nat.add_zero] at f1
  generalize X.set b (.inr (2, [.int (nI 0), .ref (b + 1), .ref (b + 2), .ref (b + 3), .ref (b + 4), .ref (b + 5), .ref (b + 6), .ref (b + 7), .ref (b + 8)])) = Y at h1 f1 ⊢
  obtain ⟨⟨fs, hrq⟩, hk1, -, -⟩ := hX Y f1
  refine kw_aload_n hB B_explore_5 rfl ?_
  refine kw_aload_n hB B_explore_6 rfl ?_
  refine kw_callA hB B_explore_7 a1 hrq hcl (As := []) hk1 rfl (by omega) (Nat.le_of_ble_eq_true rfl) (by omega) (by omega) (fun r X1 hq hl => ?_)
  obtain ⟨rfl, rfl⟩ := hq
  refine kw_iconst hB B_explore_10 (v := -1) (by decide) ?_
  have hfl := v2 _ v0
  have hz := hso fi hfl
  refine kw_callV hB B_explore_11 s_B_58 im_B_reach se_B_reach h1.1 rfl rfl (As := [.int (nI fi), .int (-1)]) (c_B_reach l D g h1 hfl (fun _ => by decide)) rfl (by decide) (Nat.le_of_ble_eq_true rfl) (by omega) (by omega) (fun r X2 hq hl2 => ?_)
  obtain ⟨rfl, h2, f2⟩ := hq.2 hz
  refine kw_pop hB B_explore_14 rfl ?_
  refine kw_iconst hB B_explore_15 (v := nI 0) (by decide) ?_
  refine kw_istore_n hB B_explore_16 rfl (by decide) rfl ?_
  refine outer 1536 0 1 (fun _ => fi) (fun _ => 0) (fun _ => 0) _ _ _ _ _ X2 _ _ (by omega) (by omega) ⟨by omega, rfl, fun _ _ => v0, fun i j hi hj _ => by omega, fun j hj => ?_, fun j hj => ?_, fun k hk hno => ?_, fun s hs => absurd hs (by omega), fun j hj1 hj2 => absurd hj2 (by omega), by omega⟩ (fun s hs => absurd hs (by omega)) h2 (f1.tr f2)
  · rw [show j = 0 by omega, pk_us]
  · rw [pk_us, show j = 0 by omega]
  · have : k ≠ fi := fun z => hno 0 (by omega) z.symm
    rw [pk_un this]
    exact hso k hk
end JB2
