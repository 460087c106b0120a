-- Language: the constructor, contains, deadState, letters, becomeWide
def jrun (x : Nat → Nat) (w : Nat) : Nat → Nat
  | 0 => 0
  | i + 1 => x (jrun x w i * 8 + jdig w (jlen w) i - 1)
/-- a state that is not good and that no letter leaves -/
def jdead (gd : Nat) (x : Nat → Nat) (q : Nat) : Prop := gd.testBit q = false ∧ ∀ a, a < 8 → x (q * 8 + a) = q
section JL3
variable (l : Launch) (D : va_G) (g : Nat × Nat)
set_option maxHeartbeats 4000000 in
set_option maxRecDepth 100000 in
theorem c_L_init {X : ja_H} {q : Nat} (h : X[q]? = some (.inr (0, [.int 0, .int 0, .null]))) (hq : q + 1 = X.length) : AMet l D g 1 1 192 m_L_init [.ref q] X (fun r X' => r = none ∧ X' = (X.set q (.inr (0, [.int 0, .int 0, .ref (q + 1)]))) ++ [.inl (0, 192, .inl (fun _ => 0))]) := by
  have hlt := (List.getElem?_eq_some_iff.mp h).1
  refine ja_metK (by decide) rfl (Nat.le_of_ble_eq_true rfl) fun K hB hF => ?_
  refine kw_aload_n hB L_init_0 rfl ?_
  refine kw_objInit hB L_init_1 (jm 165 (by decide +kernel) rfl) (jm 90 (by decide +kernel) rfl) (jm 91 (by decide +kernel) rfl) (by decide) (Nat.le_of_ble_eq_true rfl) ?_
  refine kw_aload_n hB L_init_4 rfl ?_
  refine kw_sipush hB L_init_5 (v := nI 192) (by decide) ?_
  refine kw_newa (N' := 192) (a0 := (192, .inl (fun _ => 0))) hB L_init_8 rfl rfl (t := 0) (jm 150 (by decide +kernel) rfl) (fun cA => rfl) (by decide) (by decide) (by decide) (by decide) (by decide) ?_
  refine kw_putF hB L_init_10 ⟨_, rfl, ji_L, by decide, (jm 172 (by decide +kernel) rfl)⟩ jc_L jw_L_2 rfl (by rw [List.getElem?_append_left hlt]; exact h) (Nat.le_of_ble_eq_true rfl) rfl rfl ?_
  refine kw_vret hF rfl L_init_13 ?_ (by simp)
  refine ⟨rfl, ?_⟩
  rw [List.set_append_left _ _ hlt, hq]
  rfl
set_option maxHeartbeats 4000000 in
set_option maxRecDepth 100000 in
theorem c_L_contains {X : ja_H} {q n gd w : Nat} {f : Nat → Int32} {x : Nat → Nat} (h : jLr X q (nI n) (nI gd) f) (hn : n ≤ 24) (hg : gd < 2 ^ 31) (hf : ∀ i, i < n * 8 → f i = nI (x i)) (hx : ∀ i, i < n * 8 → x i < n) (h1 : 1 ≤ n) (hw : w < 2 ^ 60) (hd : ∀ i, i < jlen w → 1 ≤ jdig w (jlen w) i ∧ jdig w (jlen w) i ≤ 8) : AMet l D g 1 0 0 m_L_contains [.ref q, .long (lN w)] X (fun r X' => r = some (.int (nI (gd.testBit (jrun x w (jlen w))).toNat)) ∧ X' = X) := by
  have lw : jlen w ≤ 15 := jlen_le (by rw [← jp16]; exact hw)
  have hst : ∀ i, i ≤ jlen w → jrun x w i < n := by
    intro i
    induction i with
    | zero => intro _; exact h1
    | succ i ih =>
      intro hi
      have := ih (by omega)
      have := hd i (by omega)
      exact hx _ (by omega)
  refine ja_metK (by decide) rfl (Nat.le_of_ble_eq_true rfl) fun K hB hF => ?_
  have loop : ∀ k i, i + k = jlen w → K 11 [.ref q, .long (lN w), .retAddr 0, .int (nI (jlen w)), .int (nI (jrun x w i)), .int (nI i)] [] X 0 0 := by
    intro k
    induction k with
    | zero =>
      intro i hi
      have hs := hst i (by omega)
      refine kw_iload hB L_contains_11 rfl ?_
      refine kw_iload_n hB L_contains_13 rfl ?_
      refine kn_icmp_ge hB L_contains_14 (by omega) (by omega) (fun hc => ?_) (fun hc => absurd hc (by omega))
      refine kw_aload_n hB L_contains_38 rfl ?_
      refine kw_iload hB L_contains_39 rfl ?_
      refine kw_callV hB L_contains_41 s_L_36 im_L_isGood se_L_isGood h.1 rfl rfl (As := [.int (nI (jrun x w i))]) (c_L_isGood l D g h hg (by omega)) rfl (by decide) (Nat.le_of_ble_eq_true rfl) (by omega) (by omega) (fun r X1 hq hl => ?_)
      obtain ⟨rfl, hxeq⟩ := hq
      obtain rfl := hxeq.symm
      refine kw_zret hF rfl (by cases gd.testBit (jrun x w i) <;> decide) L_contains_44 ?_ (by simp)
      exact ⟨by rw [show i = jlen w by omega], rfl⟩
    | succ k ih =>
      intro i hi
      have hs := hst i (by omega)
      obtain ⟨d1, d2⟩ := hd i (by omega)
      refine kw_iload hB L_contains_11 rfl ?_
      refine kw_iload_n hB L_contains_13 rfl ?_
      refine kn_icmp_ge hB L_contains_14 (by omega) (by omega) (fun hc => absurd hc (by omega)) (fun hc => ?_)
      refine kw_aload_n hB L_contains_17 rfl ?_
      refine kw_iload hB L_contains_18 rfl ?_
      refine kw_lload_n hB L_contains_20 rfl ?_
      refine kw_iload_n hB L_contains_21 rfl ?_
      refine kw_iload hB L_contains_22 rfl ?_
      refine kw_callS hB L_contains_24 s_L_28 st_W_letterAt (As := [.long (lN w), .int (nI (jlen w)), .int (nI i)]) (c_W_letterAt l D g hw (by omega) (by omega)) rfl (by decide) (Nat.le_of_ble_eq_true rfl) (by omega) (by omega) (fun r X1 hq hl => ?_)
      obtain ⟨rfl, hxeq⟩ := hq
      obtain rfl := hxeq.symm
      rw [if_pos (by omega)]
      refine kw_callV hB L_contains_27 s_L_32 im_L_after se_L_after h.1 rfl rfl (As := [.int (nI (jrun x w i)), .int (nI (jdig w (jlen w) i))]) (c_L_after l D g h d1 (by omega)) rfl (by decide) (Nat.le_of_ble_eq_true rfl) (by omega) (by omega) (fun r X1 hq hl => ?_)
      obtain ⟨rfl, hxeq⟩ := hq
      obtain rfl := hxeq.symm
      rw [hf _ (by omega)]
      refine kw_istore hB L_contains_30 (by decide) rfl ?_
      refine kn_iinc hB L_contains_32 rfl (by decide) rfl ?_
      refine kw_goto hB L_contains_35 ?_
      exact ih (i + 1) (by omega)
  refine kw_lload_n hB L_contains_0 rfl ?_
  refine kw_callS hB L_contains_1 s_L_22 st_W_length (As := [.long (lN w)]) (c_W_length l D g hw) rfl (by decide) (Nat.le_of_ble_eq_true rfl) (by omega) (by omega) (fun r X1 hq hl => ?_)
  obtain ⟨rfl, hxeq⟩ := hq
  obtain rfl := hxeq.symm
  refine kw_istore_n hB L_contains_4 rfl (by decide) rfl ?_
  refine kw_iconst hB L_contains_5 (v := nI 0) (by decide) ?_
  refine kw_istore hB L_contains_6 (by decide) rfl ?_
  refine kw_iconst hB L_contains_8 (v := nI 0) (by decide) ?_
  refine kw_istore hB L_contains_9 (by decide) rfl ?_
  exact loop (jlen w) 0 (by omega)
set_option maxHeartbeats 4000000 in
set_option maxRecDepth 100000 in
theorem c_L_deadState {X : ja_H} {q n gd : Nat} {f : Nat → Int32} {x : Nat → Nat} (h : jLr X q (nI n) (nI gd) f) (hn : n ≤ 24) (hg : gd < 2 ^ 31) (hf : ∀ i, i < n * 8 → f i = nI (x i)) (hx : ∀ i, i < n * 8 → x i < n) : AMet l D g 0 0 0 m_L_deadState [.ref q] X (fun r X' => (∃ v, r = some (.int v) ∧ ((∃ s, s < n ∧ v = nI s ∧ jdead gd x s) ∨ (v = -1 ∧ ∀ s, s < n → ¬ jdead gd x s))) ∧ X' = X) := by
  refine ja_metK (by decide) rfl (Nat.le_of_ble_eq_true rfl) fun K hB hF => ?_
  have outer : ∀ k i (u v : Value), i + k = n → (∀ s, s < i → ¬ jdead gd x s) → K 2 [.ref q, .int (nI i), u, v] [] X 0 0 := by
    intro k
    induction k with
    | zero =>
      intro i u v hi hno
      refine kw_iload_n hB L_deadState_2 rfl ?_
      refine kw_aload_n hB L_deadState_3 rfl ?_
      refine kw_getf hB L_deadState_4 f_L_19 h.1 rfl ?_
      refine kn_icmp_ge hB L_deadState_7 (by omega) (by omega) (fun hc => ?_) (fun hc => absurd hc (by omega))
      refine kw_iconst hB L_deadState_80 (v := -1) (by decide) ?_
      refine kw_iret hF rfl L_deadState_81 ?_ (by first | (simp [jLs_len]; done) | (simp [*]; done))
      exact ⟨⟨-1, rfl, Or.inr ⟨rfl, fun s hs => hno s (by omega)⟩⟩, rfl⟩
    | succ k ih =>
      intro i u v hi hno
      refine kw_iload_n hB L_deadState_2 rfl ?_
      refine kw_aload_n hB L_deadState_3 rfl ?_
      refine kw_getf hB L_deadState_4 f_L_19 h.1 rfl ?_
      refine kn_icmp_ge hB L_deadState_7 (by omega) (by omega) (fun hc => absurd hc (by omega)) (fun hc => ?_)
      have fin : ∀ (b : Bool) (v : Value), (b = true → jdead gd x i) → (b = false → ¬ jdead gd x i) → K 68 [.ref q, .int (nI i), .int (nI b.toNat), v] [] X 0 0 := by
        intro b v hb1 hb0
        refine kw_iload_n hB L_deadState_68 rfl ?_
        refine kn_if_eq hB L_deadState_69 (by cases b <;> decide) (fun hz => ?_) (fun hz => ?_)
        · refine kn_iinc hB L_deadState_74 rfl (by decide) rfl ?_
          refine kw_goto hB L_deadState_77 ?_
          refine ih (i + 1) _ _ (by omega) (fun s hs => ?_)
          by_cases hsi : s = i
          · subst hsi; exact hb0 (jb_f hz)
          · exact hno s (by omega)
        · refine kw_iload_n hB L_deadState_72 rfl ?_
          refine kw_iret hF rfl L_deadState_73 ?_ (by first | (simp [jLs_len]; done) | (simp [*]; done))
          exact ⟨⟨nI i, rfl, Or.inl ⟨i, by omega, rfl, hb1 (jb_t hz)⟩⟩, rfl⟩
      have inner : ∀ m j (b : Bool), j + m = 8 → (b = true → gd.testBit i = false ∧ ∀ a, a < j → x (i * 8 + a) = i) → (b = false → ¬ jdead gd x i) → K 32 [.ref q, .int (nI i), .int (nI b.toNat), .int (nI (i * 8 + j))] [] X 0 0 := by
        intro m
        induction m with
        | zero =>
          intro j b hj hb1 hb0
          refine kw_iload_n hB L_deadState_32 rfl ?_
          refine kw_iload_n hB L_deadState_33 rfl ?_
          refine kw_iconst hB L_deadState_34 (v := nI 1) (by decide) ?_
          refine kn_iadd hB L_deadState_35 ?_
          refine kw_bipush hB L_deadState_36 (v := nI 8) (by decide) ?_
          refine kn_imul hB L_deadState_38 ?_
          refine kn_icmp_ge hB L_deadState_39 (by omega) (by omega) (fun hc => ?_) (fun hc => absurd hc (by omega))
          refine fin b _ (fun e => ?_) hb0
          obtain ⟨e1, e2⟩ := hb1 e
          exact ⟨e1, fun a ha => e2 a (by omega)⟩
        | succ m ihm =>
          intro j b hj hb1 hb0
          refine kw_iload_n hB L_deadState_32 rfl ?_
          refine kw_iload_n hB L_deadState_33 rfl ?_
          refine kw_iconst hB L_deadState_34 (v := nI 1) (by decide) ?_
          refine kn_iadd hB L_deadState_35 ?_
          refine kw_bipush hB L_deadState_36 (v := nI 8) (by decide) ?_
          refine kn_imul hB L_deadState_38 ?_
          refine kn_icmp_ge hB L_deadState_39 (by omega) (by omega) (fun hc => absurd hc (by omega)) (fun hc => ?_)
          refine kw_iload_n hB L_deadState_42 rfl ?_
          refine kn_if_eq hB L_deadState_43 (by cases b <;> decide) (fun hz => ?_) (fun hz => ?_)
          · have hbf := jb_f hz
            subst hbf
            exact fin false _ (fun e => by cases e) hb0
          · have hbt := jb_t hz
            subst hbt
            obtain ⟨e1, e2⟩ := hb1 rfl
            refine kw_aload_n hB L_deadState_46 rfl ?_
            refine kw_getf hB L_deadState_47 f_L_11 h.1 rfl ?_
            refine kw_iload_n hB L_deadState_50 rfl ?_
            refine kn_iald hB L_deadState_51 h.2 rfl (by omega) (by first | decide | omega) ?_
            refine kw_iload_n hB L_deadState_52 rfl ?_
            rw [hf _ (by omega)]
            have hxl := hx (i * 8 + j) (by omega)
            refine kn_icmp_ne hB L_deadState_53 (by omega) (by omega) (fun hne => ?_) (fun heq => ?_)
            · refine kw_iconst hB L_deadState_60 (v := nI 0) (by decide) ?_
              refine kw_istore_n hB L_deadState_61 rfl (by decide) rfl ?_
              refine kn_iinc hB L_deadState_62 rfl (by decide) rfl ?_
              refine kw_goto hB L_deadState_65 ?_
              exact ihm (j + 1) false (by omega) (fun e => by cases e) (fun _ z => hne (z.2 j (by omega)))
            · refine kw_iconst hB L_deadState_56 (v := nI 1) (by decide) ?_
              refine kw_goto hB L_deadState_57 ?_
              refine kw_istore_n hB L_deadState_61 rfl (by decide) rfl ?_
              refine kn_iinc hB L_deadState_62 rfl (by decide) rfl ?_
              refine kw_goto hB L_deadState_65 ?_
              refine ihm (j + 1) true (by omega) (fun _ => ⟨e1, fun a ha => ?_⟩) (fun e => by cases e)
              by_cases haj : a = j
              · subst haj; exact heq
              · exact e2 a (by omega)
      refine kw_aload_n hB L_deadState_10 rfl ?_
      refine kw_getf hB L_deadState_11 f_L_15 h.1 rfl ?_
      refine kw_iload_n hB L_deadState_14 rfl ?_
      refine kn_ishr hB L_deadState_15 (by omega) hg ?_
      refine kw_iconst hB L_deadState_16 (v := nI 1) (by decide) ?_
      refine kn_iand hB L_deadState_17 ?_
      rw [Nat.and_one_is_mod, jb_bit]
      refine kn_if_ne hB L_deadState_18 (by split <;> decide) (fun hz => ?_) (fun hz => ?_)
      · have hb : gd.testBit i = true := by cases hb : gd.testBit i with | true => rfl | false => rw [hb] at hz; exact absurd rfl hz
        refine kw_iconst hB L_deadState_25 (v := nI 0) (by decide) ?_
        refine kw_istore_n hB L_deadState_26 rfl (by decide) rfl ?_
        refine kw_iload_n hB L_deadState_27 rfl ?_
        refine kw_bipush hB L_deadState_28 (v := nI 8) (by decide) ?_
        refine kn_imul hB L_deadState_30 ?_
        refine kw_istore_n hB L_deadState_31 rfl (by decide) rfl ?_
        exact inner 8 0 false (by omega) (fun e => by cases e) (fun _ z => by rw [z.1] at hb; cases hb)
      · have hb : gd.testBit i = false := by cases hb : gd.testBit i with | false => rfl | true => rw [hb] at hz; cases hz
        refine kw_iconst hB L_deadState_21 (v := nI 1) (by decide) ?_
        refine kw_goto hB L_deadState_22 ?_
        refine kw_istore_n hB L_deadState_26 rfl (by decide) rfl ?_
        refine kw_iload_n hB L_deadState_27 rfl ?_
        refine kw_bipush hB L_deadState_28 (v := nI 8) (by decide) ?_
        refine kn_imul hB L_deadState_30 ?_
        refine kw_istore_n hB L_deadState_31 rfl (by decide) rfl ?_
        exact inner 8 0 true (by omega) (fun _ => ⟨hb, fun a ha => absurd ha (by omega)⟩) (fun e => by cases e)
  refine kw_iconst hB L_deadState_0 (v := nI 0) (by decide) ?_
  refine kw_istore_n hB L_deadState_1 rfl (by decide) rfl ?_
  exact outer n 0 _ _ (by omega) (fun s hs => absurd hs (by omega))
/-- the set of letters on ways that do not lead to v -/
def jlets (f : Nat → Int32) (v : Int32) : Nat → Nat
  | 0 => 0
  | i + 1 => if f i = v then jlets f v i else jlets f v i ||| 2 ^ (i % 8)
theorem jlets_lt (f : Nat → Int32) (v : Int32) : ∀ i, jlets f v i < 2 ^ 8
  | 0 => by show 0 < 2 ^ 8; decide
  | i + 1 => by
    rw [jlets]
    split
    · exact jlets_lt f v i
    · exact Nat.or_lt_two_pow (jlets_lt f v i) (Nat.pow_lt_pow_right (by decide) (Nat.mod_lt _ (by decide)))
theorem jlets_bit (f : Nat → Int32) (v : Int32) (a : Nat) (ha : a < 8) : ∀ i, (jlets f v i).testBit a = true ↔ ∃ j, j < i ∧ j % 8 = a ∧ f j ≠ v := by
  intro i
  induction i with
  | zero => simp [jlets]
  | succ i ih =>
    rw [jlets]
    split
    · rename_i h
      rw [ih]
      constructor
      · rintro ⟨j, h1, h2⟩; exact ⟨j, by omega, h2⟩
      · rintro ⟨j, h1, h2, h3⟩
        refine ⟨j, ?_, h2, h3⟩
        by_cases hj : j = i
        · subst hj; exact absurd h h3
        · omega
    · rename_i h
      rw [Nat.testBit_or, Bool.or_eq_true, ih, Nat.testBit_two_pow]
      constructor
      · rintro (⟨j, h1, h2⟩ | h1)
        · exact ⟨j, by omega, h2⟩
        · exact ⟨i, by omega, by simpa using h1, h⟩
      · rintro ⟨j, h1, h2, h3⟩
        by_cases hj : j = i
        · subst hj; right; simpa using h2
        · left; exact ⟨j, by omega, h2, h3⟩
set_option maxHeartbeats 4000000 in
set_option maxRecDepth 100000 in
theorem c_L_letters {X : ja_H} {q n gd : Nat} {f : Nat → Int32} {x : Nat → Nat} (h : jLr X q (nI n) (nI gd) f) (hn : n ≤ 24) (hg : gd < 2 ^ 31) (hf : ∀ i, i < n * 8 → f i = nI (x i)) (hx : ∀ i, i < n * 8 → x i < n) : AMet l D g 1 0 0 m_L_letters [.ref q] X (fun r X' => (∃ v, r = some (.int (nI (jlets f v (n * 8)))) ∧ ((∃ s, s < n ∧ v = nI s ∧ jdead gd x s) ∨ (v = -1 ∧ ∀ s, s < n → ¬ jdead gd x s))) ∧ X' = X) := by
  refine ja_metK (by decide) rfl (Nat.le_of_ble_eq_true rfl) fun K hB hF => ?_
  refine kw_aload_n hB L_letters_0 rfl ?_
  refine kw_callV hB L_letters_1 s_L_82 im_L_deadState se_L_deadState h.1 rfl rfl (As := []) (c_L_deadState l D g h hn hg hf hx) rfl (by decide) (Nat.le_of_ble_eq_true rfl) (by omega) (by omega) (fun r X1 hq hl => ?_)
  obtain ⟨⟨v, rfl, hv⟩, hxx⟩ := hq
  obtain rfl := hxx.symm
  have loop : ∀ k i, i + k = n * 8 → K 9 [.ref q, .int v, .int (nI (jlets f v i)), .int (nI i)] [] X 0 0 := by
    intro k
    induction k with
    | zero =>
      intro i hi
      refine kw_iload_n hB L_letters_9 rfl ?_
      refine kw_aload_n hB L_letters_10 rfl ?_
      refine kw_getf hB L_letters_11 f_L_19 h.1 rfl ?_
      refine kw_bipush hB L_letters_14 (v := nI 8) (by decide) ?_
      refine kn_imul hB L_letters_16 ?_
      refine kn_icmp_ge hB L_letters_17 (by omega) (by omega) (fun hc => ?_) (fun hc => absurd hc (by omega))
      refine kw_iload_n hB L_letters_45 rfl ?_
      refine kw_iret hF rfl L_letters_46 ?_ (by first | (simp [jLs_len]; done) | (simp [*]; done))
      exact ⟨⟨v, by rw [show i = n * 8 by omega], hv⟩, rfl⟩
    | succ k ih =>
      intro i hi
      refine kw_iload_n hB L_letters_9 rfl ?_
      refine kw_aload_n hB L_letters_10 rfl ?_
      refine kw_getf hB L_letters_11 f_L_19 h.1 rfl ?_
      refine kw_bipush hB L_letters_14 (v := nI 8) (by decide) ?_
      refine kn_imul hB L_letters_16 ?_
      refine kn_icmp_ge hB L_letters_17 (by omega) (by omega) (fun hc => absurd hc (by omega)) (fun hc => ?_)
      refine kw_aload_n hB L_letters_20 rfl ?_
      refine kw_getf hB L_letters_21 f_L_11 h.1 rfl ?_
      refine kw_iload_n hB L_letters_24 rfl ?_
      refine kn_iald hB L_letters_25 h.2 rfl (by omega) (by first | decide | omega) ?_
      refine kw_iload_n hB L_letters_26 rfl ?_
      refine kw_icmp_eq hB L_letters_27 (fun he => ?_) (fun he => ?_)
      · refine kn_iinc hB L_letters_39 rfl (by decide) rfl ?_
        refine kw_goto hB L_letters_42 ?_
        have := ih (i + 1) (by omega)
        rw [jlets, if_pos he] at this
        exact this
      · refine kw_iload_n hB L_letters_30 rfl ?_
        refine kw_iconst hB L_letters_31 (v := nI 1) (by decide) ?_
        refine kw_iload_n hB L_letters_32 rfl ?_
        refine kw_bipush hB L_letters_33 (v := nI 8) (by decide) ?_
        refine kn_irem hB L_letters_35 (by omega) (by decide) (by decide) ?_
        have h8 : i % 8 < 8 := Nat.mod_lt _ (by decide)
        have hp : 2 ^ (i % 8) < 2 ^ 8 := Nat.pow_lt_pow_right (by decide) h8
        refine kn_ishl hB L_letters_36 (by omega) (by omega) ?_
        refine kn_ior hB L_letters_37 ?_
        rw [Nat.one_mul]
        refine kw_istore_n hB L_letters_38 rfl (by decide) rfl ?_
        refine kn_iinc hB L_letters_39 rfl (by decide) rfl ?_
        refine kw_goto hB L_letters_42 ?_
        have := ih (i + 1) (by omega)
        rw [jlets, if_neg he] at this
        exact this
  refine kw_istore_n hB L_letters_4 rfl (by decide) rfl ?_
  refine kw_iconst hB L_letters_5 (v := nI 0) (by decide) ?_
  refine kw_istore_n hB L_letters_6 rfl (by decide) rfl ?_
  refine kw_iconst hB L_letters_7 (v := nI 0) (by decide) ?_
  refine kw_istore_n hB L_letters_8 rfl (by decide) rfl ?_
  exact loop (n * 8) 0 (by omega)
end JL3
