-- Image: lengthenSilent, use; the sets of states to which letters lead that are left out
def jSw (mk : Nat → Nat) (w : List Nat) : Prop := ∀ c ∈ w, c < 8 ∧ mk (c + 1) = 0
def jSo (mk x : Nat → Nat) (n : Nat) (s : Nat → Nat) : Prop := ∀ q, q < n → s q < 2 ^ n ∧ ∀ r, (s q).testBit r = true → ∃ w, jSw mk w ∧ jgo x q w = r
def jSg (n : Nat) (s s' : Nat → Nat) : Prop := ∀ q r, q < n → (s q).testBit r = true → (s' q).testBit r = true
/-- what is done before the letter c of state q -/
def jSd (mk x : Nat → Nat) (n q c : Nat) (s s' : Nat → Nat) : Prop := ∀ q' c', 1 ≤ c' → c' ≤ 8 → (q' < q ∨ (q' = q ∧ c' < c)) → q' < n → mk c' = 0 → ∀ r, (s (x (q' * 8 + c' - 1))).testBit r = true → (s' q').testBit r = true
theorem jSstep {mk x s s' : Nat → Nat} {n q c : Nat} (hq : q < n) (h1 : 1 ≤ c) (h8 : c ≤ 8) (hm : mk c = 0) (hx : x (q * 8 + c - 1) < n) (a1 : jSo mk x n s') (a2 : jSg n s s') (a3 : jSd mk x n q c s s') : jSo mk x n (va_up s' q (s' q ||| s' (x (q * 8 + c - 1)))) ∧ jSg n s (va_up s' q (s' q ||| s' (x (q * 8 + c - 1)))) ∧ jSd mk x n q (c + 1) s (va_up s' q (s' q ||| s' (x (q * 8 + c - 1)))) := by
  have up : ∀ i r, (s' i).testBit r = true → (va_up s' q (s' q ||| s' (x (q * 8 + c - 1))) i).testBit r = true := by
    intro i r h
    by_cases hi : i = q
    · subst hi; rw [jup_self, Nat.testBit_or, h]; rfl
    · rw [jup_ne hi]; exact h
  refine ⟨fun i hi => ?_, fun i r hi h => up i r (a2 i r hi h), fun q' c' h1' h8' hlt hn' hm' r h => ?_⟩
  · by_cases hiq : i = q
    · subst hiq
      rw [jup_self]
      refine ⟨Nat.or_lt_two_pow (a1 _ hi).1 (a1 _ hx).1, fun r hr => ?_⟩
      rw [Nat.testBit_or, Bool.or_eq_true] at hr
      rcases hr with hr | hr
      · exact (a1 _ hi).2 r hr
      · obtain ⟨w, w1, w2⟩ := (a1 _ hx).2 r hr
        refine ⟨(c - 1) :: w, fun y hy => ?_, ?_⟩
        · rcases List.mem_cons.mp hy with rfl | hy
          · exact ⟨by omega, by rw [show c - 1 + 1 = c by omega]; exact hm⟩
          · exact w1 y hy
        · show jgo x (x (i * 8 + (c - 1))) w = r
          rw [show i * 8 + (c - 1) = i * 8 + c - 1 by omega]
          exact w2
    · rw [jup_ne hiq]; exact a1 i hi
  · by_cases he : q' = q ∧ c' = c
    · obtain ⟨rfl, rfl⟩ := he
      rw [jup_self, Nat.testBit_or, a2 _ r hx h, Bool.or_true]
    · exact up q' r (a3 q' c' h1' h8' (by omega) hn' hm' r h)
section JI2
variable (l : Launch) (D : va_G) (g : Nat × Nat) {X : ja_H}
set_option maxHeartbeats 4000000 in
set_option maxRecDepth 100000 in
theorem c_I_lengthenSilent {p n gd : Nat} {x mk s : Nat → Nat} {mf sf : Nat → Int32} (hp : jIr X p mf sf) (ha : jLv X (p + 1) n gd x) (hn : n ≤ 8) (hm : ∀ i, 1 ≤ i → i < 9 → mf i = nI (mk i)) (hm2 : ∀ i, i < 9 → mk i < 2 ^ 31) (hs : ∀ i, i < n → sf i = nI (s i)) (hso : jSo mk x n s) : AMet l D g 1 0 0 m_I_lengthenSilent [.ref p] X (fun r X' => r = none ∧ jfr [p + 4] X X' ∧ ∃ sf' s', jIr X' p mf sf' ∧ (∀ i, i < n → sf' i = nI (s' i)) ∧ jSo mk x n s' ∧ jSg n s s' ∧ jSd mk x n n 1 s s') := by
  obtain ⟨p1, p2, p3⟩ := hp
  obtain ⟨-, -, -, hx⟩ := ha.good
  have e4 : ∀ i, i < 4 → p + i ∉ [p + 4] := fun i hi z => by simp only [List.mem_cons, List.not_mem_nil, or_false] at z; omega
  have len : p + 4 < X.length := (List.getElem?_eq_some_iff.mp p3).1
  refine ja_metK (by decide) rfl (Nat.le_of_ble_eq_true rfl) fun K hB hF => ?_
  have outer : ∀ m q (u : Value) (Y : ja_H) (sf' : Nat → Int32) (s' : Nat → Nat), q + m = n → jfr [p + 4] X Y → Y[p + 4]? = some (.inl (0, 8, .inl sf')) → (∀ i, i < n → sf' i = nI (s' i)) → jSo mk x n s' → jSg n s s' → jSd mk x n q 1 s s' → K 2 [.ref p, .int (nI q), u] [] Y 0 0 := by
    intro m
    induction m with
    | zero =>
      intro q u Y sf' s' hq hf y3 hs' a1 a2 a3
      have y1 := hf.at (e4 0 (by decide)) p1
      have y2 := hf.at (e4 3 (by decide)) p2
      have ya := ha.fr hf (e4 1 (by decide)) (e4 2 (by decide))
      have ra := ya.choose_spec.1.1
      have hqn : q = n := by omega
      subst hqn
      refine kw_iload_n hB I_lengthenSilent_2 rfl ?_
      refine kw_aload_n hB I_lengthenSilent_3 rfl ?_
      refine kw_getf hB I_lengthenSilent_4 f_I_12 y1 rfl ?_
      refine kw_getf hB I_lengthenSilent_7 f_I_35 ra rfl ?_
      refine kn_icmp_ge hB I_lengthenSilent_10 (by omega) (by omega) (fun hc => ?_) (fun hc => absurd hc (by omega))
      have hl := hf.1
      refine kw_vret hF rfl I_lengthenSilent_65 ?_ (by first | (simp [jLs_len]; done) | (simp [*]; done))
      exact ⟨rfl, hf, sf', s', ⟨y1, y2, y3⟩, hs', a1, a2, a3⟩
    | succ m ih =>
      intro q u Y sf' s' hq hf y3 hs' a1 a2 a3
      have inner : ∀ i c (Y : ja_H) (sf' : Nat → Int32) (s' : Nat → Nat), c + i = 9 → 1 ≤ c → jfr [p + 4] X Y → Y[p + 4]? = some (.inl (0, 8, .inl sf')) → (∀ i, i < n → sf' i = nI (s' i)) → jSo mk x n s' → jSg n s s' → jSd mk x n q c s s' → K 15 [.ref p, .int (nI q), .int (nI c)] [] Y 0 0 := by
        intro i
        induction i with
        | zero =>
          intro c Y sf' s' hc h1 hf y3 hs' a1 a2 a3
          refine kw_iload_n hB I_lengthenSilent_15 rfl ?_
          refine kw_bipush hB I_lengthenSilent_16 (v := nI 8) (by decide) ?_
          refine kn_icmp_gt hB I_lengthenSilent_18 (by omega) (by decide) (fun hc => ?_) (fun hc => absurd hc (by omega))
          refine kn_iinc hB I_lengthenSilent_59 rfl (by decide) rfl ?_
          refine kw_goto hB I_lengthenSilent_62 ?_
          refine ih (q + 1) _ Y sf' s' (by omega) hf y3 hs' a1 a2 (fun q' c' h1' h8' hlt => a3 q' c' h1' h8' (by omega))
        | succ i ihi =>
          intro c Y sf' s' hc h1 hf y3 hs' a1 a2 a3
          have y1 := hf.at (e4 0 (by decide)) p1
          have y2 := hf.at (e4 3 (by decide)) p2
          have ya := ha.fr hf (e4 1 (by decide)) (e4 2 (by decide))
          have ra := ya.choose_spec.1.1
          refine kw_iload_n hB I_lengthenSilent_15 rfl ?_
          refine kw_bipush hB I_lengthenSilent_16 (v := nI 8) (by decide) ?_
          refine kn_icmp_gt hB I_lengthenSilent_18 (by omega) (by decide) (fun hc => absurd hc (by omega)) (fun hcc => ?_)
          refine kw_aload_n hB I_lengthenSilent_21 rfl ?_
          refine kw_getf hB I_lengthenSilent_22 f_I_18 y1 rfl ?_
          refine kw_iload_n hB I_lengthenSilent_25 rfl ?_
          refine kn_iald hB I_lengthenSilent_26 y2 rfl (by omega) (by first | decide | omega) ?_
          rw [hm _ h1 (by omega)]
          refine kn_if_ne hB I_lengthenSilent_27 (hm2 c (by omega)) (fun hz' => ?_) (fun hz' => ?_)
          · refine kn_iinc hB I_lengthenSilent_53 rfl (by decide) rfl ?_
            refine kw_goto hB I_lengthenSilent_56 ?_
            exact ihi (c + 1) Y sf' s' (by omega) (by omega) hf y3 hs' a1 a2 (fun q' c' h1' h8' hlt hn' hm' => by
              by_cases he : q' = q ∧ c' = c
              · obtain ⟨rfl, rfl⟩ := he; exact absurd hm' hz'
              · exact a3 q' c' h1' h8' (by omega) hn' hm')
          · have hxl := hx (q * 8 + c - 1) (by omega)
            refine kw_aload_n hB I_lengthenSilent_30 rfl ?_
            refine kw_getf hB I_lengthenSilent_31 f_I_22 y1 rfl ?_
            refine kw_iload_n hB I_lengthenSilent_34 rfl ?_
            refine kw_dup2 hB I_lengthenSilent_35 rfl rfl ?_
            refine kn_iald hB I_lengthenSilent_36 y3 rfl (by omega) (by first | decide | omega) ?_
            refine kw_aload_n hB I_lengthenSilent_37 rfl ?_
            refine kw_getf hB I_lengthenSilent_38 f_I_22 y1 rfl ?_
            refine kw_aload_n hB I_lengthenSilent_41 rfl ?_
            refine kw_getf hB I_lengthenSilent_42 f_I_12 y1 rfl ?_
            refine kw_iload_n hB I_lengthenSilent_45 rfl ?_
            refine kw_iload_n hB I_lengthenSilent_46 rfl ?_
            refine kw_callV hB I_lengthenSilent_47 s_I_42 im_L_after se_L_after ra rfl rfl (As := [.int (nI q), .int (nI c)]) (v_L_after l D g ya (by omega) (by omega) (by omega)) rfl (by decide) (Nat.le_of_ble_eq_true rfl) (by omega) (by omega) (fun r X1 hq hl => ?_)
            obtain ⟨rfl, hxeq⟩ := hq
            obtain rfl := hxeq.symm
            refine kn_iald hB I_lengthenSilent_50 y3 rfl (by omega) (by decide) ?_
            rw [hs' _ hxl, hs' _ (by omega)]
            refine kn_ior hB I_lengthenSilent_51 ?_
            refine kn_iast hB I_lengthenSilent_52 y3 rfl (by omega) (by decide) ?_
            refine kn_iinc hB I_lengthenSilent_53 rfl (by decide) rfl ?_
            refine kw_goto hB I_lengthenSilent_56 ?_
            obtain ⟨b1, b2, b3⟩ := jSstep (by omega) h1 (by omega) hz' hxl a1 a2 a3
            refine ihi (c + 1) _ _ _ (by omega) (by omega) (hf.tr (jset_fr _ _ _)) (List.getElem?_set_self (by rw [hf.1]; exact len)) (fun j hj => ?_) b1 b2 b3
            by_cases hjq : j = q
            · subst hjq; rw [pk_us, jup_self]
            · rw [pk_un hjq, jup_ne hjq]; exact hs' j hj
      have y1 := hf.at (e4 0 (by decide)) p1
      have ya := ha.fr hf (e4 1 (by decide)) (e4 2 (by decide))
      have ra := ya.choose_spec.1.1
      refine kw_iload_n hB I_lengthenSilent_2 rfl ?_
      refine kw_aload_n hB I_lengthenSilent_3 rfl ?_
      refine kw_getf hB I_lengthenSilent_4 f_I_12 y1 rfl ?_
      refine kw_getf hB I_lengthenSilent_7 f_I_35 ra rfl ?_
      refine kn_icmp_ge hB I_lengthenSilent_10 (by omega) (by omega) (fun hc => absurd hc (by omega)) (fun hcc => ?_)
      refine kw_iconst hB I_lengthenSilent_13 (v := nI 1) (by decide) ?_
      refine kw_istore_n hB I_lengthenSilent_14 rfl (by decide) rfl ?_
      exact inner 8 1 Y sf' s' (by omega) (by omega) hf y3 hs' a1 a2 a3
  refine kw_iconst hB I_lengthenSilent_0 (v := nI 0) (by decide) ?_
  refine kw_istore_n hB I_lengthenSilent_1 rfl (by decide) rfl ?_
  exact outer n 0 _ X sf s (by omega) (jfr.rf _ _) p3 hs hso (fun q r _ h => h) (fun q' c' h1 h8 hlt => by omega)
/-- what Image holds of a language: what the function makes of a letter, the sets of silent ways -/
def jIv (X : ja_H) (p n gd : Nat) (x : Nat → Nat) (f : Nat) : Prop := jLv X (p + 1) n gd x ∧ n ≤ 8 ∧ ∃ mf sf s, jIr X p mf sf ∧ mf 0 = 0 ∧ (∀ i, 1 ≤ i → i < 9 → mf i = nI (jimg i f)) ∧ (∀ i, i < n → sf i = nI (s i)) ∧ jSo (fun i => jimg i f) x n s ∧ ∀ q w, q < n → jSw (fun i => jimg i f) w → (s q).testBit (jgo x q w) = true
def jIx (X : ja_H) (p : Nat) : Prop := jLx X (p + 1) ∧ ∃ mf sf, jIr X p mf sf ∧ mf 0 = 0
theorem jSclose {mk x : Nat → Nat} {n : Nat} {s : Nat → Nat} (hx : ∀ i, i < n * 8 → x i < n) (h : ∀ q w, q < n → jSw mk w → w.length ≤ n → (s q).testBit (jgo x q w) = true) : ∀ L q w, w.length ≤ L → q < n → jSw mk w → (s q).testBit (jgo x q w) = true := by
  intro L
  induction L with
  | zero => intro q w hw hq hs; exact h q w hq hs (by omega)
  | succ L ih =>
    intro q w hw hq hs
    by_cases hl : w.length ≤ n
    · exact h q w hq hs hl
    · have hok : ∀ k, jok (w.take k) := fun k c hc => (hs c (List.mem_of_mem_take hc)).1
      have hx8 : ∀ t, t < 8 * n → x t < n := fun t ht => hx t (by omega)
      have hex : ∃ k k', k < k' ∧ k' ≤ n ∧ jgo x q (w.take k) = jgo x q (w.take k') := Classical.byContradiction fun hno => by
        have := jpig n (fun k => jgo x q (w.take k)) (n + 1) (fun k _ => jgo_lt hx8 _ q hq (hok k)) (fun k k' hk hk' he => by
          rcases Nat.lt_trichotomy k k' with z | z | z
          · exact absurd ⟨k, k', z, by omega, he⟩ hno
          · exact z
          · exact absurd ⟨k', k, z, by omega, he.symm⟩ hno)
        omega
      obtain ⟨k, k', hk, hk', he⟩ := hex
      have e1 : jgo x q w = jgo x q (w.take k ++ w.drop k') := by
        rw [jgo_app, he, ← jgo_app, List.take_append_drop]
      rw [e1]
      refine ih q _ ?_ hq (fun c hc => ?_)
      · rw [List.length_append, List.length_take, List.length_drop]; omega
      · rcases List.mem_append.mp hc with z | z
        · exact hs c (List.mem_of_mem_take z)
        · exact hs c (List.mem_of_mem_drop z)
theorem jSnext {mk x s s' : Nat → Nat} {n i : Nat} (hx : ∀ i, i < n * 8 → x i < n) (h : ∀ q w, q < n → jSw mk w → w.length ≤ i → (s q).testBit (jgo x q w) = true) (a2 : jSg n s s') (a3 : jSd mk x n n 1 s s') : ∀ q w, q < n → jSw mk w → w.length ≤ i + 1 → (s' q).testBit (jgo x q w) = true := by
  intro q w hq hw hl
  cases w with
  | nil => exact a2 q _ hq (h q [] hq hw (by simp))
  | cons c w =>
    have hc := hw c (by simp)
    have hw' : jSw mk w := fun y hy => hw y (by simp [hy])
    have hxl := hx (q * 8 + c) (by omega)
    have := h (x (q * 8 + c)) w hxl hw' (by simpa using hl)
    refine a3 q (c + 1) (by omega) (by omega) (Or.inl hq) hq hc.2 _ ?_
    rw [show q * 8 + (c + 1) - 1 = q * 8 + c by omega]
    exact this
theorem jimg_31 {i f : Nat} (hi : i < 9) : jimg i f < 2 ^ 31 := by
  have hl : jlet 4 (jtnt i) * 16 ||| i < 2 ^ 8 ∨ True := Or.inr trivial
  have h4 : jlet 4 (jtnt i) * 16 ||| i < 2 ^ 31 := Nat.or_lt_two_pow (by unfold jlet; split <;> decide) (by omega)
  unfold jimg
  repeat' split
  all_goals omega
set_option maxHeartbeats 4000000 in
set_option maxRecDepth 100000 in
theorem v_I_use {p src n gd f : Nat} {x : Nat → Nat} (hp : jIx X p) (ha : jLv X src n gd x) (hn : n ≤ 8) (hf : f < 2 ^ 31) (hd : src + 1 < p ∨ p + 4 < src) : AMet l D g 2 0 0 m_I_use [.ref p, .ref src, .int (nI f)] X (fun r X' => r = none ∧ jfr [p + 1, p + 2, p + 3, p + 4] X X' ∧ jIv X' p n gd x f) := by
  obtain ⟨hL, mf, sf, ⟨p1, p2, p3⟩, hm0⟩ := hp
  obtain ⟨-, -, -, hx⟩ := ha.good
  have len : p + 4 < X.length := (List.getElem?_eq_some_iff.mp p3).1
  refine ja_metK (by decide) rfl (Nat.le_of_ble_eq_true rfl) fun K hB hF => ?_
  have loop3 : ∀ m i (Y : ja_H) (mf sf : Nat → Int32) (s : Nat → Nat), i + m = n → jfr [p + 1, p + 2, p + 3, p + 4] X Y → jLv Y (p + 1) n gd x → jIr Y p mf sf → mf 0 = 0 → (∀ i, 1 ≤ i → i < 9 → mf i = nI (jimg i f)) → (∀ i, i < n → sf i = nI (s i)) → jSo (fun i => jimg i f) x n s → (∀ q w, q < n → jSw (fun i => jimg i f) w → w.length ≤ i → (s q).testBit (jgo x q w) = true) → K 63 [.ref p, .ref src, .int (nI f), .int (nI i)] [] Y 0 0 := by
    intro m
    induction m with
    | zero =>
      intro i Y mf sf s him hfr hlv hI hm0 hm hs hso hco
      have ra := hlv.choose_spec.1.1
      have hle := hfr.1
      refine kw_iload_n hB I_use_63 rfl ?_
      refine kw_aload_n hB I_use_64 rfl ?_
      refine kw_getf hB I_use_65 f_I_12 hI.1 rfl ?_
      refine kw_getf hB I_use_68 f_I_35 ra rfl ?_
      refine kn_icmp_ge hB I_use_71 (by omega) (by omega) (fun hc => ?_) (fun hc => absurd hc (by omega))
      refine kw_vret hF rfl I_use_84 ?_ (by first | (simp [jLs_len]; done) | (simp [*]; done))
      refine ⟨rfl, hfr, hlv, hn, mf, sf, s, hI, hm0, hm, hs, hso, fun q w hq hw => ?_⟩
      rw [show i = n by omega] at hco
      exact jSclose hx hco w.length q w (Nat.le_refl _) hq hw
    | succ m ih =>
      intro i Y mf sf s him hfr hlv hI hm0 hm hs hso hco
      have ra := hlv.choose_spec.1.1
      have hle := hfr.1
      refine kw_iload_n hB I_use_63 rfl ?_
      refine kw_aload_n hB I_use_64 rfl ?_
      refine kw_getf hB I_use_65 f_I_12 hI.1 rfl ?_
      refine kw_getf hB I_use_68 f_I_35 ra rfl ?_
      refine kn_icmp_ge hB I_use_71 (by omega) (by omega) (fun hc => absurd hc (by omega)) (fun hc => ?_)
      refine kw_aload_n hB I_use_74 rfl ?_
      refine kw_callV hB I_use_75 s_I_39 im_I_lengthenSilent se_I_lengthenSilent hI.1 rfl rfl (As := []) (c_I_lengthenSilent l D g hI hlv hn hm (fun i hi => jimg_31 hi) hs hso) rfl (by decide) (Nat.le_of_ble_eq_true rfl) (by omega) (by omega) (fun r X1 hq hl => ?_)
      obtain ⟨rfl, q1, sf', s', q2, q3, q4, q5, q6⟩ := hq
      have no : ∀ k, k ≤ 3 → p + k ∉ [p + 4] := fun k hk z => by simp only [List.mem_cons, List.not_mem_nil, or_false] at z; omega
      refine kn_iinc hB I_use_78 rfl (by decide) rfl ?_
      refine kw_goto hB I_use_81 ?_
      exact ih (i + 1) X1 mf sf' s' (by omega) (hfr.tr (q1.mono (by simp))) (hlv.fr q1 (no 1 (by decide)) (no 2 (by decide))) q2 hm0 hm q3 q4 (jSnext hx hco q5 q6)
  have loop2 : ∀ m i (Y : ja_H) (mf sf : Nat → Int32), i + m = n → jfr [p + 1, p + 2, p + 3, p + 4] X Y → jLv Y (p + 1) n gd x → jIr Y p mf sf → mf 0 = 0 → (∀ i, 1 ≤ i → i < 9 → mf i = nI (jimg i f)) → (∀ j, j < i → sf j = nI (2 ^ j)) → K 35 [.ref p, .ref src, .int (nI f), .int (nI i)] [] Y 0 0 := by
    intro m
    induction m with
    | zero =>
      intro i Y mf sf him hfr hlv hI hm0 hm hs
      have ra := hlv.choose_spec.1.1
      refine kw_iload_n hB I_use_35 rfl ?_
      refine kw_aload_n hB I_use_36 rfl ?_
      refine kw_getf hB I_use_37 f_I_12 hI.1 rfl ?_
      refine kw_getf hB I_use_40 f_I_35 ra rfl ?_
      refine kn_icmp_ge hB I_use_43 (by omega) (by omega) (fun hc => ?_) (fun hc => absurd hc (by omega))
      refine kw_iconst hB I_use_61 (v := nI 0) (by decide) ?_
      refine kw_istore_n hB I_use_62 rfl (by decide) rfl ?_
      refine loop3 n 0 Y mf sf (fun j => 2 ^ j) (by omega) hfr hlv hI hm0 hm (fun j hj => hs j (by omega)) (fun q hq => ⟨Nat.pow_lt_pow_right (by decide) hq, fun r hr => ⟨[], fun _ z => (by cases z), ?_⟩⟩) (fun q w hq hw hl => ?_)
      · exact Classical.byContradiction fun hne => by
          have hr : (2 ^ q).testBit r = true := hr
          have hne : q ≠ r := hne
          rw [Nat.testBit_two_pow_of_ne hne] at hr
          cases hr
      · have : w = [] := List.length_eq_zero_iff.mp (by omega)
        subst this
        exact Nat.testBit_two_pow_self
    | succ m ih =>
      intro i Y mf sf him hfr hlv hI hm0 hm hs
      have ra := hlv.choose_spec.1.1
      refine kw_iload_n hB I_use_35 rfl ?_
      refine kw_aload_n hB I_use_36 rfl ?_
      refine kw_getf hB I_use_37 f_I_12 hI.1 rfl ?_
      refine kw_getf hB I_use_40 f_I_35 ra rfl ?_
      refine kn_icmp_ge hB I_use_43 (by omega) (by omega) (fun hc => absurd hc (by omega)) (fun hc => ?_)
      refine kw_aload_n hB I_use_46 rfl ?_
      refine kw_getf hB I_use_47 f_I_22 hI.1 rfl ?_
      refine kw_iload_n hB I_use_50 rfl ?_
      refine kw_iconst hB I_use_51 (v := nI 1) (by decide) ?_
      refine kw_iload_n hB I_use_52 rfl ?_
      refine kn_ishl hB I_use_53 (by omega) (by have := Nat.pow_lt_pow_right (a := 2) (by decide) (show i < 8 by omega); omega) ?_
      refine kn_iast hB I_use_54 hI.2.2 rfl (by omega) (by decide) ?_
      refine kn_iinc hB I_use_55 rfl (by decide) rfl ?_
      refine kw_goto hB I_use_58 ?_
      have no : ∀ k, k ≤ 3 → p + k ∉ [p + 4] := fun k hk z => by simp only [List.mem_cons, List.not_mem_nil, or_false] at z; omega
      have q1 := jset_fr Y (p + 4) (.inl (0, 8, .inl (upd sf i (nI (1 * 2 ^ i)))))
      refine ih (i + 1) _ mf (upd sf i (nI (1 * 2 ^ i))) (by omega) (hfr.tr (q1.mono (by simp))) (hlv.fr q1 (no 1 (by decide)) (no 2 (by decide))) ⟨q1.at (no 0 (by decide)) hI.1, q1.at (no 3 (by decide)) hI.2.1, List.getElem?_set_self (by rw [hfr.1]; exact len)⟩ hm0 hm (fun j hj => ?_)
      by_cases hji : j = i
      · subst hji; rw [pk_us, Nat.one_mul]
      · rw [pk_un hji]; exact hs j (by omega)
  have loop1 : ∀ m i (Y : ja_H) (mf sf : Nat → Int32), i + m = 9 → 1 ≤ i → jfr [p + 1, p + 2, p + 3, p + 4] X Y → jLv Y (p + 1) n gd x → jIr Y p mf sf → mf 0 = 0 → (∀ j, 1 ≤ j → j < i → mf j = nI (jimg j f)) → K 10 [.ref p, .ref src, .int (nI f), .int (nI i)] [] Y 0 0 := by
    intro m
    induction m with
    | zero =>
      intro i Y mf sf him h1 hfr hlv hI hm0 hm
      refine kw_iload_n hB I_use_10 rfl ?_
      refine kw_bipush hB I_use_11 (v := nI 8) (by decide) ?_
      refine kn_icmp_gt hB I_use_13 (by omega) (by decide) (fun hc => ?_) (fun hc => absurd hc (by omega))
      refine kw_iconst hB I_use_33 (v := nI 0) (by decide) ?_
      refine kw_istore_n hB I_use_34 rfl (by decide) rfl ?_
      exact loop2 n 0 Y mf sf (by omega) hfr hlv hI hm0 (fun j h1 h9 => hm j h1 (by omega)) (fun j hj => absurd hj (by omega))
    | succ m ih =>
      intro i Y mf sf him h1 hfr hlv hI hm0 hm
      refine kw_iload_n hB I_use_10 rfl ?_
      refine kw_bipush hB I_use_11 (v := nI 8) (by decide) ?_
      refine kn_icmp_gt hB I_use_13 (by omega) (by decide) (fun hc => absurd hc (by omega)) (fun hc => ?_)
      refine kw_aload_n hB I_use_16 rfl ?_
      refine kw_getf hB I_use_17 f_I_18 hI.1 rfl ?_
      refine kw_iload_n hB I_use_20 rfl ?_
      refine kw_iload_n hB I_use_21 rfl ?_
      refine kw_iload_n hB I_use_22 rfl ?_
      refine kw_callS hB I_use_23 s_I_29 st_W_image (As := [.int (nI i), .int (nI f)]) (c_W_image l D g h1 (by omega) hf) rfl (by decide) (Nat.le_of_ble_eq_true rfl) (by omega) (by omega) (fun r X1 hq hl => ?_)
      obtain ⟨rfl, hxeq⟩ := hq
      obtain rfl := hxeq.symm
      refine kn_iast hB I_use_26 hI.2.1 rfl (by omega) (by decide) ?_
      refine kn_iinc hB I_use_27 rfl (by decide) rfl ?_
      refine kw_goto hB I_use_30 ?_
      have no : ∀ k, k ≤ 4 → k ≠ 3 → p + k ∉ [p + 3] := fun k hk hk3 z => by simp only [List.mem_cons, List.not_mem_nil, or_false] at z; omega
      have q1 := jset_fr Y (p + 3) (.inl (0, 9, .inl (upd mf i (nI (jimg i f)))))
      refine ih (i + 1) _ (upd mf i (nI (jimg i f))) sf (by omega) (by omega) (hfr.tr (q1.mono (by simp))) (hlv.fr q1 (no 1 (by decide) (by decide)) (no 2 (by decide) (by decide))) ⟨q1.at (no 0 (by decide) (by decide)) hI.1, List.getElem?_set_self (by rw [hfr.1]; omega), q1.at (no 4 (by decide) (by decide)) hI.2.2⟩ (by rw [pk_un (by omega)]; exact hm0) (fun j h1 hj => ?_)
      by_cases hji : j = i
      · subst hji; rw [pk_us]
      · rw [pk_un hji]; exact hm j h1 (by omega)
  refine kw_aload_n hB I_use_0 rfl ?_
  refine kw_getf hB I_use_1 f_I_12 p1 rfl ?_
  refine kw_aload_n hB I_use_4 rfl ?_
  refine kw_callV hB I_use_5 s_I_25 im_L_copy se_L_copy hL.choose_spec.choose_spec.choose_spec.1 rfl rfl (As := [.ref src]) (v_L_copy l D g hL ha (by omega)) rfl (by decide) (Nat.le_of_ble_eq_true rfl) (by omega) (by omega) (fun r X1 hq hl => ?_)
  obtain ⟨rfl, c1, c2⟩ := hq
  have no : ∀ k, k = 0 ∨ k = 3 ∨ k = 4 → p + k ∉ [p + 1, p + 1 + 1] := fun k hk z => by simp only [List.mem_cons, List.not_mem_nil, or_false] at z; omega
  refine kw_iconst hB I_use_8 (v := nI 1) (by decide) ?_
  refine kw_istore_n hB I_use_9 rfl (by decide) rfl ?_
  exact loop1 8 1 X1 mf sf (by omega) (by decide) (c2.mono (by intro k hk; simp only [List.mem_cons, List.not_mem_nil, or_false] at hk ⊢; omega)) c1 ⟨c2.at (no 0 (by decide)) p1, c2.at (no 3 (by decide)) p2, c2.at (no 4 (by decide)) p3⟩ hm0 (fun j h1 hj => absurd hj (by omega))
end JI2
