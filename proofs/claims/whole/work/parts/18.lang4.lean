-- Language: becomeWide, becomeMeeting, becomeAttacks, becomeWord
/-- the ways of the automaton of a condition -/
def jmt (k s c q : Nat) : Nat := if q = 0 then (if jsym c = s then 1 else if k = 1 then 2 else 0) else if q = 1 then (if jsym c = s ∨ k ≠ 2 then 1 else 0) else 2
def jmtk (k s : Nat) (f : Nat → Int32) (m : Nat) : Nat → Int32 := fun j => if j < 24 ∧ j % 8 < m then nI (jmt k s (j % 8 + 1) (j / 8)) else f j
theorem jmtk_0 (k s : Nat) (f : Nat → Int32) : jmtk k s f 0 = f := by
  funext j; simp only [jmtk]; rw [if_neg (by omega)]
theorem jmtk_s (k s : Nat) (f : Nat → Int32) {m : Nat} (hm : m < 8) : upd (upd (upd (jmtk k s f m) m (nI (jmt k s (m + 1) 0))) (8 + m) (nI (jmt k s (m + 1) 1))) (16 + m) (nI (jmt k s (m + 1) 2)) = jmtk k s f (m + 1) := by
  funext j
  simp only [upd, jmtk]
  by_cases h1 : j = 16 + m
  · subst h1
    rw [if_pos rfl, if_pos (by omega), show (16 + m) % 8 = m by omega, show (16 + m) / 8 = 2 by omega]
  · rw [if_neg h1]
    by_cases h2 : j = 8 + m
    · subst h2
      rw [if_pos rfl, if_pos (by omega), show (8 + m) % 8 = m by omega, show (8 + m) / 8 = 1 by omega]
    · rw [if_neg h2]
      by_cases h3 : j = m
      · subst h3
        rw [if_pos rfl, if_pos (by omega), show j % 8 = j by omega, show j / 8 = 0 by omega]
      · rw [if_neg h3]
        by_cases h4 : j < 24 ∧ j % 8 < m
        · rw [if_pos h4, if_pos (by omega)]
        · rw [if_neg h4, if_neg (by omega)]
/-- the ways of the automaton of attacks, as far as they are written -/
def jatk (f : Nat → Int32) (m : Nat) : Nat → Int32 := fun j => if j < m then nI (jread (j / 8) (j % 8 + 1)) else f j
theorem jatk_0 (f : Nat → Int32) : jatk f 0 = f := by
  funext j; simp only [jatk]; rw [if_neg (by omega)]
theorem jatk_s (f : Nat → Int32) (p c : Nat) (hc : c < 8) : upd (jatk f (p * 8 + c)) (p * 8 + c) (nI (jread p (c + 1))) = jatk f (p * 8 + c + 1) := by
  funext j
  simp only [upd, jatk]
  by_cases h1 : j = p * 8 + c
  · subst h1
    rw [if_pos rfl, if_pos (by omega), show (p * 8 + c) / 8 = p by omega, show (p * 8 + c) % 8 = c by omega]
  · rw [if_neg h1]
    by_cases h2 : j < p * 8 + c
    · rw [if_pos h2, if_pos (by omega)]
    · rw [if_neg h2, if_neg (by omega)]
/-- the dead state, and the states of a word's beginnings -/
def jwd (w : Nat) : Nat := if 0 < jlen w ∧ jdig w (jlen w) 0 = 1 then 2 else 1
def jws (w i : Nat) : Nat := if i = 0 then 0 else if i < jwd w then i else i + 1
def jwf (w : Nat) (f : Nat → Int32) : Nat → Nat → Int32
  | 0 => jfl f 0 ((jlen w + 2) * 8) (nI (jwd w))
  | i + 1 => upd (jwf w f i) (jws w i * 8 + jdig w (jlen w) i - 1) (nI (jws w (i + 1)))
section JL4
variable (l : Launch) (D : va_G) (g : Nat × Nat)
set_option maxHeartbeats 4000000 in
set_option maxRecDepth 100000 in
theorem c_L_becomeWide {X : ja_H} {q p n gd : Nat} {n0 g0 : Int32} {f f0 : Nat → Int32} {x : Nat → Nat} (h0 : jLr X q n0 g0 f0) (h : jLr X p (nI n) (nI gd) f) (hn : n ≤ 24) (hg : gd < 2 ^ 31) (hf : ∀ i, i < n * 8 → f i = nI (x i)) (hx : ∀ i, i < n * 8 → x i < n) : AMet l D g 3 0 0 m_L_becomeWide [.ref q, .ref p] X (fun r X' => r = none ∧ ((n = 1 ∧ gd = 0 ∧ X' = jLs X q (nI 1) (nI 0) (jfl f0 0 8 (nI 0))) ∨ (¬ (n = 1 ∧ gd = 0) ∧ ∃ v, X' = jLs X q (nI (if jlets f v (n * 8) = 255 then 1 else 2)) (nI 1) (jallk (jlets f v (n * 8)) f0 8) ∧ ((∃ s, s < n ∧ v = nI s ∧ jdead gd x s) ∨ (v = -1 ∧ ∀ s, s < n → ¬ jdead gd x s))))) := by
  refine ja_metK (by decide) rfl (Nat.le_of_ble_eq_true rfl) fun K hB hF => ?_
  refine kw_aload_n hB L_becomeWide_0 rfl ?_
  refine kw_callV hB L_becomeWide_1 s_L_67 im_L_isEmpty se_L_isEmpty h.1 rfl rfl (As := []) (c_L_isEmpty l D g h (by omega) hg) rfl (by decide) (Nat.le_of_ble_eq_true rfl) (by omega) (by omega) (fun r X1 hq hl => ?_)
  obtain ⟨rfl, hxeq⟩ := hq
  obtain rfl := hxeq.symm
  refine kn_if_eq hB L_becomeWide_4 (by cases decide (n = 1 ∧ gd = 0) <;> decide) (fun hz => ?_) (fun hz => ?_)
  · have hne : ¬ (n = 1 ∧ gd = 0) := of_decide_eq_false (jb_f hz)
    refine kw_aload_n hB L_becomeWide_14 rfl ?_
    refine kw_aload_n hB L_becomeWide_15 rfl ?_
    refine kw_callV hB L_becomeWide_16 s_L_74 im_L_letters se_L_letters h.1 rfl rfl (As := []) (c_L_letters l D g h hn hg hf hx) rfl (by decide) (Nat.le_of_ble_eq_true rfl) (by omega) (by omega) (fun r X1 hq hl => ?_)
    obtain ⟨⟨v, rfl, hv⟩, hxx⟩ := hq
    obtain rfl := hxx.symm
    refine kw_callV hB L_becomeWide_19 s_L_78 im_L_becomeAllOf se_L_becomeAllOf h0.1 rfl rfl (As := [.int (nI (jlets f v (n * 8)))]) (c_L_becomeAllOf l D g h0 (jlets_lt _ _ _)) rfl (by decide) (Nat.le_of_ble_eq_true rfl) (by omega) (by omega) (fun r X1 hq hl => ?_)
    obtain ⟨rfl, rfl⟩ := hq
    refine kw_vret hF rfl L_becomeWide_22 ?_ (by first | (simp [jLs_len]; done) | (simp [*]; done))
    exact ⟨rfl, Or.inr ⟨hne, v, rfl, hv⟩⟩
  · have he : n = 1 ∧ gd = 0 := of_decide_eq_true (jb_t hz)
    refine kw_aload_n hB L_becomeWide_7 rfl ?_
    refine kw_callV hB L_becomeWide_8 s_L_71 im_L_becomeEmpty se_L_becomeEmpty h0.1 rfl rfl (As := []) (c_L_becomeEmpty l D g h0) rfl (by decide) (Nat.le_of_ble_eq_true rfl) (by omega) (by omega) (fun r X1 hq hl => ?_)
    obtain ⟨rfl, rfl⟩ := hq
    refine kw_goto hB L_becomeWide_11 ?_
    refine kw_vret hF rfl L_becomeWide_22 ?_ (by first | (simp [jLs_len]; done) | (simp [*]; done))
    exact ⟨rfl, Or.inl ⟨he.1, he.2, rfl⟩⟩
set_option maxHeartbeats 4000000 in
set_option maxRecDepth 100000 in
theorem c_L_becomeMeeting {X : ja_H} {q k s : Nat} {n gd : Int32} {f : Nat → Int32} (h : jLr X q n gd f) (hk : k < 3) (hs : s ≤ 4) : AMet l D g 1 0 0 m_L_becomeMeeting [.ref q, .int (nI k), .int (nI s)] X (fun r X' => r = none ∧ X' = jLs X q (nI 3) (nI 2) (jmtk k s f 8)) := by
  have hlt := h.lt
  refine ja_metK (by decide) rfl (Nat.le_of_ble_eq_true rfl) fun K hB hF => ?_
  have loop : ∀ m i (u : Value), i + m = 8 → K 8 [.ref q, .int (nI k), .int (nI s), .int (nI (i + 1)), u] [] (jLs X q (nI 3) (nI 2) (jmtk k s f i)) 0 0 := by
    intro m
    induction m with
    | zero =>
      intro i u hi
      refine kw_iload_n hB L_becomeMeeting_8 rfl ?_
      refine kw_bipush hB L_becomeMeeting_9 (v := nI 8) (by decide) ?_
      refine kn_icmp_gt hB L_becomeMeeting_11 (by omega) (by omega) (fun hc => ?_) (fun hc => absurd hc (by omega))
      refine kw_vret hF rfl L_becomeMeeting_88 ?_ (by first | (simp [jLs_len]; done) | (simp [*]; done))
      exact ⟨rfl, by rw [show i = 8 by omega]⟩
    | succ m ih =>
      intro i u hi
      have r1 := jLs_r (nI 3) (nI 2) (jmtk k s f i) hlt
      have r2 := jLs_r (nI 3) (nI 2) (upd (jmtk k s f i) i (nI (jmt k s (i + 1) 0))) hlt
      have r3 := jLs_r (nI 3) (nI 2) (upd (upd (jmtk k s f i) i (nI (jmt k s (i + 1) 0))) (8 + i) (nI (jmt k s (i + 1) 1))) hlt
      refine kw_iload_n hB L_becomeMeeting_8 rfl ?_
      refine kw_bipush hB L_becomeMeeting_9 (v := nI 8) (by decide) ?_
      refine kn_icmp_gt hB L_becomeMeeting_11 (by omega) (by omega) (fun hc => absurd hc (by omega)) (fun hc => ?_)
      refine kw_iload_n hB L_becomeMeeting_14 rfl ?_
      refine kw_callS hB L_becomeMeeting_15 s_L_60 st_W_symbol (As := [.int (nI (i + 1))]) (c_W_symbol l D g (by omega)) rfl (by decide) (Nat.le_of_ble_eq_true rfl) (by omega) (by omega) (fun r X1 hq hl => ?_)
      obtain ⟨rfl, hxeq⟩ := hq
      obtain rfl := hxeq.symm
      have hsy : jsym (i + 1) < 2 ^ 31 := by unfold jsym; omega
      have third : K 75 [.ref q, .int (nI k), .int (nI s), .int (nI (i + 1)), .int (nI (decide (jsym (i + 1) = s)).toNat)] [] (jLs X q (nI 3) (nI 2) (upd (upd (jmtk k s f i) i (nI (jmt k s (i + 1) 0))) (8 + i) (nI (jmt k s (i + 1) 1)))) 0 0 := by
        refine kw_aload_n hB L_becomeMeeting_75 rfl ?_
        refine kw_iconst hB L_becomeMeeting_76 (v := nI 2) (by decide) ?_
        refine kw_iload_n hB L_becomeMeeting_77 rfl ?_
        refine kw_iconst hB L_becomeMeeting_78 (v := nI 2) (by decide) ?_
        refine kw_callV hB L_becomeMeeting_79 s_L_56 im_L_lead se_L_lead r3.1 rfl rfl (As := [.int (nI 2), .int (nI (i + 1)), .int (nI 2)]) (c_L_lead l D g r3 (by omega) (by omega)) rfl (by decide) (Nat.le_of_ble_eq_true rfl) (by omega) (by omega) (fun r X1 hq hl => ?_)
        obtain ⟨rfl, rfl⟩ := hq
        rw [jLs_s _ _ _ _ _ _ hlt, show 2 * 8 + (i + 1) - 1 = 16 + i by omega]
        have hj := jmtk_s k s f (m := i) (by omega)
        rw [show jmt k s (i + 1) 2 = 2 from rfl] at hj
        rw [hj]
        refine kn_iinc hB L_becomeMeeting_82 rfl (by decide) rfl ?_
        refine kw_goto hB L_becomeMeeting_85 ?_
        exact ih (i + 1) _ (by omega)
      have second : K 54 [.ref q, .int (nI k), .int (nI s), .int (nI (i + 1)), .int (nI (decide (jsym (i + 1) = s)).toNat)] [] (jLs X q (nI 3) (nI 2) (upd (jmtk k s f i) i (nI (jmt k s (i + 1) 0)))) 0 0 := by
        have put : ∀ t : Nat, t = jmt k s (i + 1) 1 → K 72 [.ref q, .int (nI k), .int (nI s), .int (nI (i + 1)), .int (nI (decide (jsym (i + 1) = s)).toNat)] [.int (nI t), .int (nI (i + 1)), .int (nI 1), .ref q] (jLs X q (nI 3) (nI 2) (upd (jmtk k s f i) i (nI (jmt k s (i + 1) 0)))) 0 0 := by
          intro t ht
          refine kw_callV hB L_becomeMeeting_72 s_L_56 im_L_lead se_L_lead r2.1 rfl rfl (As := [.int (nI 1), .int (nI (i + 1)), .int (nI t)]) (c_L_lead l D g r2 (by omega) (by omega)) rfl (by decide) (Nat.le_of_ble_eq_true rfl) (by omega) (by omega) (fun r X1 hq hl => ?_)
          obtain ⟨rfl, rfl⟩ := hq
          rw [jLs_s _ _ _ _ _ _ hlt, show 1 * 8 + (i + 1) - 1 = 8 + i by omega, ht]
          exact third
        refine kw_aload_n hB L_becomeMeeting_54 rfl ?_
        refine kw_iconst hB L_becomeMeeting_55 (v := nI 1) (by decide) ?_
        refine kw_iload_n hB L_becomeMeeting_56 rfl ?_
        refine kw_iload hB L_becomeMeeting_57 rfl ?_
        refine kn_if_ne hB L_becomeMeeting_59 (by cases decide (jsym (i + 1) = s) <;> decide) (fun hz => ?_) (fun hz => ?_)
        · have he := of_decide_eq_true (jb_t hz)
          refine kw_iconst hB L_becomeMeeting_67 (v := nI 1) (by decide) ?_
          refine kw_goto hB L_becomeMeeting_68 ?_
          exact put 1 (by simp [jmt, he])
        · have he := of_decide_eq_false (jb_f hz)
          refine kw_iload_n hB L_becomeMeeting_62 rfl ?_
          refine kw_iconst hB L_becomeMeeting_63 (v := nI 2) (by decide) ?_
          refine kn_icmp_eq hB L_becomeMeeting_64 (by omega) (by decide) (fun h2 => ?_) (fun h2 => ?_)
          · refine kw_iconst hB L_becomeMeeting_71 (v := nI 0) (by decide) ?_
            exact put 0 (by simp [jmt, he, h2])
          · refine kw_iconst hB L_becomeMeeting_67 (v := nI 1) (by decide) ?_
            refine kw_goto hB L_becomeMeeting_68 ?_
            exact put 1 (by simp [jmt, h2])
      have first : K 27 [.ref q, .int (nI k), .int (nI s), .int (nI (i + 1)), u] [.int (nI (decide (jsym (i + 1) = s)).toNat)] (jLs X q (nI 3) (nI 2) (jmtk k s f i)) 0 0 := by
        have put : ∀ t : Nat, t = jmt k s (i + 1) 0 → K 51 [.ref q, .int (nI k), .int (nI s), .int (nI (i + 1)), .int (nI (decide (jsym (i + 1) = s)).toNat)] [.int (nI t), .int (nI (i + 1)), .int (nI 0), .ref q] (jLs X q (nI 3) (nI 2) (jmtk k s f i)) 0 0 := by
          intro t ht
          refine kw_callV hB L_becomeMeeting_51 s_L_56 im_L_lead se_L_lead r1.1 rfl rfl (As := [.int (nI 0), .int (nI (i + 1)), .int (nI t)]) (c_L_lead l D g r1 (by omega) (by omega)) rfl (by decide) (Nat.le_of_ble_eq_true rfl) (by omega) (by omega) (fun r X1 hq hl => ?_)
          obtain ⟨rfl, rfl⟩ := hq
          rw [jLs_s _ _ _ _ _ _ hlt, show 0 * 8 + (i + 1) - 1 = i by omega, ht]
          exact second
        refine kw_istore hB L_becomeMeeting_27 (by decide) rfl ?_
        refine kw_aload_n hB L_becomeMeeting_29 rfl ?_
        refine kw_iconst hB L_becomeMeeting_30 (v := nI 0) (by decide) ?_
        refine kw_iload_n hB L_becomeMeeting_31 rfl ?_
        refine kw_iload hB L_becomeMeeting_32 rfl ?_
        refine kn_if_eq hB L_becomeMeeting_34 (by cases decide (jsym (i + 1) = s) <;> decide) (fun hz => ?_) (fun hz => ?_)
        · have he := of_decide_eq_false (jb_f hz)
          refine kw_iload_n hB L_becomeMeeting_41 rfl ?_
          refine kw_iconst hB L_becomeMeeting_42 (v := nI 1) (by decide) ?_
          refine kn_icmp_ne hB L_becomeMeeting_43 (by omega) (by decide) (fun h2 => ?_) (fun h2 => ?_)
          · refine kw_iconst hB L_becomeMeeting_50 (v := nI 0) (by decide) ?_
            exact put 0 (by simp [jmt, he, h2])
          · refine kw_iconst hB L_becomeMeeting_46 (v := nI 2) (by decide) ?_
            refine kw_goto hB L_becomeMeeting_47 ?_
            exact put 2 (by simp [jmt, he, h2])
        · have he := of_decide_eq_true (jb_t hz)
          refine kw_iconst hB L_becomeMeeting_37 (v := nI 1) (by decide) ?_
          refine kw_goto hB L_becomeMeeting_38 ?_
          exact put 1 (by simp [jmt, he])
      refine kw_iload_n hB L_becomeMeeting_18 rfl ?_
      refine kn_icmp_ne hB L_becomeMeeting_19 hsy (by omega) (fun hz => ?_) (fun hz => ?_)
      · refine kw_iconst hB L_becomeMeeting_26 (v := nI 0) (by decide) ?_
        rw [decide_eq_false hz] at first
        exact first
      · refine kw_iconst hB L_becomeMeeting_22 (v := nI 1) (by decide) ?_
        refine kw_goto hB L_becomeMeeting_23 ?_
        rw [decide_eq_true hz] at first
        exact first
  refine kw_aload_n hB L_becomeMeeting_0 rfl ?_
  refine kw_iconst hB L_becomeMeeting_1 (v := nI 3) (by decide) ?_
  refine kw_iconst hB L_becomeMeeting_2 (v := nI 2) (by decide) ?_
  refine kw_callV hB L_becomeMeeting_3 s_L_46 im_L_begin se_L_begin h.1 rfl rfl (As := [.int (nI 3), .int (nI 2)]) (c_L_begin l D g h) rfl (by decide) (Nat.le_of_ble_eq_true rfl) (by omega) (by omega) (fun r X1 hq hl => ?_)
  obtain ⟨rfl, rfl⟩ := hq
  refine kw_iconst hB L_becomeMeeting_6 (v := nI 1) (by decide) ?_
  refine kw_istore_n hB L_becomeMeeting_7 rfl (by decide) rfl ?_
  have := loop 8 0 (.retAddr 0) (by omega)
  rw [jmtk_0] at this
  exact this
set_option maxHeartbeats 4000000 in
set_option maxRecDepth 100000 in
theorem c_L_becomeAttacks {X : ja_H} {q : Nat} {n gd : Int32} {f : Nat → Int32} (h : jLr X q n gd f) : AMet l D g 2 0 0 m_L_becomeAttacks [.ref q] X (fun r X' => r = none ∧ X' = jLs X q (nI 4) (nI 14) (jatk f 32)) := by
  have hlt := h.lt
  refine ja_metK (by decide) rfl (Nat.le_of_ble_eq_true rfl) fun K hB hF => ?_
  have outer : ∀ m p (u : Value), p + m = 4 → K 9 [.ref q, .int (nI p), u] [] (jLs X q (nI 4) (nI 14) (jatk f (p * 8))) 0 0 := by
    intro m
    induction m with
    | zero =>
      intro p u hp
      refine kw_iload_n hB L_becomeAttacks_9 rfl ?_
      refine kw_iconst hB L_becomeAttacks_10 (v := nI 4) (by decide) ?_
      refine kn_icmp_ge hB L_becomeAttacks_11 (by omega) (by omega) (fun hc => ?_) (fun hc => absurd hc (by omega))
      refine kw_vret hF rfl L_becomeAttacks_45 ?_ (by first | (simp [jLs_len]; done) | (simp [*]; done))
      exact ⟨rfl, by rw [show p = 4 by omega]⟩
    | succ m ih =>
      intro p u hp
      have inner : ∀ k c, c + k = 8 → K 16 [.ref q, .int (nI p), .int (nI (c + 1))] [] (jLs X q (nI 4) (nI 14) (jatk f (p * 8 + c))) 0 0 := by
        intro k
        induction k with
        | zero =>
          intro c hc0
          refine kw_iload_n hB L_becomeAttacks_16 rfl ?_
          refine kw_bipush hB L_becomeAttacks_17 (v := nI 8) (by decide) ?_
          refine kn_icmp_gt hB L_becomeAttacks_19 (by omega) (by omega) (fun hc => ?_) (fun hc => absurd hc (by omega))
          refine kn_iinc hB L_becomeAttacks_39 rfl (by decide) rfl ?_
          refine kw_goto hB L_becomeAttacks_42 ?_
          have := ih (p + 1) (.int (nI (c + 1))) (by omega)
          rw [show (p + 1) * 8 = p * 8 + c by omega] at this
          exact this
        | succ k ihk =>
          intro c hc0
          have r1 := jLs_r (nI 4) (nI 14) (jatk f (p * 8 + c)) hlt
          refine kw_iload_n hB L_becomeAttacks_16 rfl ?_
          refine kw_bipush hB L_becomeAttacks_17 (v := nI 8) (by decide) ?_
          refine kn_icmp_gt hB L_becomeAttacks_19 (by omega) (by omega) (fun hc => absurd hc (by omega)) (fun hc => ?_)
          refine kw_aload_n hB L_becomeAttacks_22 rfl ?_
          refine kw_iload_n hB L_becomeAttacks_23 rfl ?_
          refine kw_iload_n hB L_becomeAttacks_24 rfl ?_
          refine kw_iload_n hB L_becomeAttacks_25 rfl ?_
          refine kw_iload_n hB L_becomeAttacks_26 rfl ?_
          refine kw_callS hB L_becomeAttacks_27 s_L_64 st_W_read (As := [.int (nI p), .int (nI (c + 1))]) (c_W_read l D g (by omega) (by omega)) rfl (by decide) (Nat.le_of_ble_eq_true rfl) (by omega) (by omega) (fun r X1 hq hl => ?_)
          obtain ⟨rfl, hxeq⟩ := hq
          obtain rfl := hxeq.symm
          refine kw_callV hB L_becomeAttacks_30 s_L_56 im_L_lead se_L_lead r1.1 rfl rfl (As := [.int (nI p), .int (nI (c + 1)), .int (nI (jread p (c + 1)))]) (c_L_lead l D g r1 (by omega) (by omega)) rfl (by decide) (Nat.le_of_ble_eq_true rfl) (by omega) (by omega) (fun r X1 hq hl => ?_)
          obtain ⟨rfl, rfl⟩ := hq
          rw [jLs_s _ _ _ _ _ _ hlt, show p * 8 + (c + 1) - 1 = p * 8 + c by omega, jatk_s f p c (by omega)]
          refine kn_iinc hB L_becomeAttacks_33 rfl (by decide) rfl ?_
          refine kw_goto hB L_becomeAttacks_36 ?_
          exact ihk (c + 1) (by omega)
      refine kw_iload_n hB L_becomeAttacks_9 rfl ?_
      refine kw_iconst hB L_becomeAttacks_10 (v := nI 4) (by decide) ?_
      refine kn_icmp_ge hB L_becomeAttacks_11 (by omega) (by omega) (fun hc => absurd hc (by omega)) (fun hc => ?_)
      refine kw_iconst hB L_becomeAttacks_14 (v := nI 1) (by decide) ?_
      refine kw_istore_n hB L_becomeAttacks_15 rfl (by decide) rfl ?_
      exact inner 8 0 (by omega)
  refine kw_aload_n hB L_becomeAttacks_0 rfl ?_
  refine kw_iconst hB L_becomeAttacks_1 (v := nI 4) (by decide) ?_
  refine kw_bipush hB L_becomeAttacks_2 (v := nI 14) (by decide) ?_
  refine kw_callV hB L_becomeAttacks_4 s_L_46 im_L_begin se_L_begin h.1 rfl rfl (As := [.int (nI 4), .int (nI 14)]) (c_L_begin l D g h) rfl (by decide) (Nat.le_of_ble_eq_true rfl) (by omega) (by omega) (fun r X1 hq hl => ?_)
  obtain ⟨rfl, rfl⟩ := hq
  refine kw_iconst hB L_becomeAttacks_7 (v := nI 0) (by decide) ?_
  refine kw_istore_n hB L_becomeAttacks_8 rfl (by decide) rfl ?_
  have := outer 4 0 (.retAddr 0) (by omega)
  rw [Nat.zero_mul, jatk_0] at this
  exact this
set_option maxHeartbeats 4000000 in
set_option maxRecDepth 100000 in
theorem c_L_becomeWord {X : ja_H} {q w : Nat} {n gd : Int32} {f : Nat → Int32} (h : jLr X q n gd f) (hw : w < 2 ^ 24) (hd : ∀ i, i < jlen w → 1 ≤ jdig w (jlen w) i ∧ jdig w (jlen w) i ≤ 8) : AMet l D g 2 0 0 m_L_becomeWord [.ref q, .long (lN w)] X (fun r X' => r = none ∧ X' = jLs X q (nI (jlen w + 2)) (nI (2 ^ jws w (jlen w))) (jwf w f (jlen w))) := by
  have hlt := h.lt
  have lw : jlen w ≤ 6 := jlen_le (by rw [← jp16]; exact hw)
  have hwd : jwd w = 1 ∨ jwd w = 2 := by unfold jwd; split <;> simp
  have hws : ∀ i, jws w i ≤ i + 1 := by
    intro i
    unfold jws
    split
    · omega
    · split <;> omega
  refine ja_metK (by decide) rfl (Nat.le_of_ble_eq_true rfl) fun K hB hF => ?_
  have loop : ∀ k i (u : Value), i + k = jlen w → K 44 [.ref q, .long (lN w), .retAddr 0, .int (nI (jlen w)), .int (nI (jwd w)), .int (nI (jws w i)), .int (nI i), u] [] (jLs X q n gd (jwf w f i)) 0 0 := by
    intro k
    induction k with
    | zero =>
      intro i u hi
      have r1 := jLs_r n gd (jwf w f i) hlt
      have := hws i
      refine kw_iload hB L_becomeWord_44 rfl ?_
      refine kw_iload_n hB L_becomeWord_46 rfl ?_
      refine kn_icmp_ge hB L_becomeWord_47 (by omega) (by omega) (fun hc => ?_) (fun hc => absurd hc (by omega))
      refine kw_aload_n hB L_becomeWord_97 rfl ?_
      refine kw_iload_n hB L_becomeWord_98 rfl ?_
      refine kw_iconst hB L_becomeWord_99 (v := nI 2) (by decide) ?_
      refine kn_iadd hB L_becomeWord_100 ?_
      refine kw_iconst hB L_becomeWord_101 (v := nI 1) (by decide) ?_
      refine kw_iload hB L_becomeWord_102 rfl ?_
      have hp : 2 ^ jws w i ≤ 2 ^ 8 := Nat.pow_le_pow_right (by decide) (by omega)
      refine kn_ishl hB L_becomeWord_104 (by omega) (by omega) ?_
      rw [Nat.one_mul]
      refine kw_callV hB L_becomeWord_105 s_L_46 im_L_begin se_L_begin r1.1 rfl rfl (As := [.int (nI (jlen w + 2)), .int (nI (2 ^ jws w i))]) (c_L_begin l D g r1) rfl (by decide) (Nat.le_of_ble_eq_true rfl) (by omega) (by omega) (fun r X1 hq hl => ?_)
      obtain ⟨rfl, rfl⟩ := hq
      rw [jLs_s _ _ _ _ _ _ hlt]
      refine kw_vret hF rfl L_becomeWord_108 ?_ (by first | (simp [jLs_len]; done) | (simp [*]; done))
      exact ⟨rfl, by rw [show i = jlen w by omega]⟩
    | succ k ih =>
      intro i u hi
      have r1 := jLs_r n gd (jwf w f i) hlt
      have hb := hws i
      obtain ⟨d1, d2⟩ := hd i (by omega)
      have put : ∀ t : Nat, t = jws w (i + 1) → K 70 [.ref q, .long (lN w), .retAddr 0, .int (nI (jlen w)), .int (nI (jwd w)), .int (nI (jws w i)), .int (nI i), u] [.int (nI t)] (jLs X q n gd (jwf w f i)) 0 0 := by
        intro t ht
        refine kw_istore hB L_becomeWord_70 (by decide) rfl ?_
        refine kw_aload_n hB L_becomeWord_72 rfl ?_
        refine kw_iload hB L_becomeWord_73 rfl ?_
        refine kw_lload_n hB L_becomeWord_75 rfl ?_
        refine kw_iload_n hB L_becomeWord_76 rfl ?_
        refine kw_iload hB L_becomeWord_77 rfl ?_
        refine kw_callS hB L_becomeWord_79 s_L_28 st_W_letterAt (As := [.long (lN w), .int (nI (jlen w)), .int (nI i)]) (c_W_letterAt l D g (by omega) (by omega) (by omega)) rfl (by decide) (Nat.le_of_ble_eq_true rfl) (by omega) (by omega) (fun r X1 hq hl => ?_)
        obtain ⟨rfl, hxeq⟩ := hq
        obtain rfl := hxeq.symm
        rw [if_pos (by omega)]
        refine kw_iload hB L_becomeWord_82 rfl ?_
        refine kw_callV hB L_becomeWord_84 s_L_56 im_L_lead se_L_lead r1.1 rfl rfl (As := [.int (nI (jws w i)), .int (nI (jdig w (jlen w) i)), .int (nI t)]) (c_L_lead l D g r1 d1 (by omega)) rfl (by decide) (Nat.le_of_ble_eq_true rfl) (by omega) (by omega) (fun r X1 hq hl => ?_)
        obtain ⟨rfl, rfl⟩ := hq
        rw [jLs_s _ _ _ _ _ _ hlt, ht]
        refine kw_iload hB L_becomeWord_87 rfl ?_
        refine kw_istore hB L_becomeWord_89 (by decide) rfl ?_
        refine kn_iinc hB L_becomeWord_91 rfl (by decide) rfl ?_
        refine kw_goto hB L_becomeWord_94 ?_
        exact ih (i + 1) _ (by omega)
      refine kw_iload hB L_becomeWord_44 rfl ?_
      refine kw_iload_n hB L_becomeWord_46 rfl ?_
      refine kn_icmp_ge hB L_becomeWord_47 (by omega) (by omega) (fun hc => absurd hc (by omega)) (fun hc => ?_)
      refine kw_iload hB L_becomeWord_50 rfl ?_
      refine kw_iconst hB L_becomeWord_52 (v := nI 1) (by decide) ?_
      refine kn_iadd hB L_becomeWord_53 ?_
      refine kw_iload hB L_becomeWord_54 rfl ?_
      refine kn_icmp_ge hB L_becomeWord_56 (by omega) (by omega) (fun hz => ?_) (fun hz => ?_)
      · refine kw_iload hB L_becomeWord_66 rfl ?_
        refine kw_iconst hB L_becomeWord_68 (v := nI 2) (by decide) ?_
        refine kn_iadd hB L_becomeWord_69 ?_
        exact put _ (by unfold jws; rw [if_neg (by omega), if_neg (by omega)])
      · refine kw_iload hB L_becomeWord_59 rfl ?_
        refine kw_iconst hB L_becomeWord_61 (v := nI 1) (by decide) ?_
        refine kn_iadd hB L_becomeWord_62 ?_
        refine kw_goto hB L_becomeWord_63 ?_
        exact put _ (by unfold jws; rw [if_neg (by omega), if_pos hz])
  refine kw_lload_n hB L_becomeWord_0 rfl ?_
  refine kw_callS hB L_becomeWord_1 s_L_22 st_W_length (As := [.long (lN w)]) (c_W_length l D g (by omega)) rfl (by decide) (Nat.le_of_ble_eq_true rfl) (by omega) (by omega) (fun r X1 hq hl => ?_)
  obtain ⟨rfl, hxeq⟩ := hq
  obtain rfl := hxeq.symm
  refine kw_istore_n hB L_becomeWord_4 rfl (by decide) rfl ?_
  refine kw_lload_n hB L_becomeWord_5 rfl ?_
  refine kw_iload_n hB L_becomeWord_6 rfl ?_
  refine kw_iconst hB L_becomeWord_7 (v := nI 0) (by decide) ?_
  refine kw_callS hB L_becomeWord_8 s_L_28 st_W_letterAt (As := [.long (lN w), .int (nI (jlen w)), .int (nI 0)]) (c_W_letterAt l D g (by omega) (by omega) (by decide)) rfl (by decide) (Nat.le_of_ble_eq_true rfl) (by omega) (by omega) (fun r X1 hq hl => ?_)
  obtain ⟨rfl, hxeq⟩ := hq
  obtain rfl := hxeq.symm
  have start : K 20 [.ref q, .long (lN w), .retAddr 0, .int (nI (jlen w)), .retAddr 0, .retAddr 0, .retAddr 0, .retAddr 0] [.int (nI (jwd w))] X 0 0 := by
    refine kw_istore hB L_becomeWord_20 (by decide) rfl ?_
    refine kw_aload_n hB L_becomeWord_22 rfl ?_
    refine kw_getf hB L_becomeWord_23 f_L_11 h.1 rfl ?_
    refine kw_iconst hB L_becomeWord_26 (v := nI 0) (by decide) ?_
    refine kw_iload_n hB L_becomeWord_27 rfl ?_
    refine kw_iconst hB L_becomeWord_28 (v := nI 2) (by decide) ?_
    refine kn_iadd hB L_becomeWord_29 ?_
    refine kw_bipush hB L_becomeWord_30 (v := nI 8) (by decide) ?_
    refine kn_imul hB L_becomeWord_32 ?_
    refine kw_iload hB L_becomeWord_33 rfl ?_
    refine kw_callS hB L_becomeWord_35 s_L_50 st_J_fillR (As := [.ref (q + 1), .int (nI 0), .int (nI ((jlen w + 2) * 8)), .int (nI (jwd w))]) (c_J_fillR l D g h.2 (by decide) (by omega) (by omega)) rfl (by decide) (Nat.le_of_ble_eq_true rfl) (by omega) (by omega) (fun r X1 hq hl => ?_)
    obtain ⟨rfl, rfl⟩ := hq
    rw [h.wr]
    refine kw_iconst hB L_becomeWord_38 (v := nI 0) (by decide) ?_
    refine kw_istore hB L_becomeWord_39 (by decide) rfl ?_
    refine kw_iconst hB L_becomeWord_41 (v := nI 0) (by decide) ?_
    refine kw_istore hB L_becomeWord_42 (by decide) rfl ?_
    exact loop (jlen w) 0 _ (by omega)
  have hdd : (if 0 < jlen w then jdig w (jlen w) 0 else 0) < 2 ^ 31 := by
    split
    · exact Nat.lt_trans (jdig_lt _ _ _) (by decide)
    · decide
  refine kw_iconst hB L_becomeWord_11 (v := nI 1) (by decide) ?_
  refine kn_icmp_ne hB L_becomeWord_12 hdd (by decide) (fun hz => ?_) (fun hz => ?_)
  · refine kw_iconst hB L_becomeWord_19 (v := nI 1) (by decide) ?_
    have : jwd w = 1 := by
      unfold jwd
      rw [if_neg]
      rintro ⟨a1, a2⟩
      rw [if_pos a1] at hz
      exact hz a2
    rw [this] at start
    exact start
  · refine kw_iconst hB L_becomeWord_15 (v := nI 2) (by decide) ?_
    refine kw_goto hB L_becomeWord_16 ?_
    have : jwd w = 2 := by
      unfold jwd
      rw [if_pos]
      by_cases a1 : 0 < jlen w
      · rw [if_pos a1] at hz; exact ⟨a1, hz⟩
      · rw [if_neg a1] at hz; cases hz
    rw [this] at start
    exact start
end JL4
