-- Analysis: fill, the constructor
def jLg (b : Nat) : Nat → ja_H
  | 0 => []
  | n + 1 => jLg b n ++ jcL (b + 2 * n)
theorem jLg_len (b : Nat) : ∀ n, (jLg b n).length = 2 * n
  | 0 => rfl
  | n + 1 => by rw [jLg, List.length_append, jLg_len b n]; show 2 * n + 2 = 2 * (n + 1); omega
theorem jLg_at (b : Nat) : ∀ n i, i < n → (jLg b n)[2 * i]? = some (.inr (0, [.int 0, .int 0, .ref (b + 2 * i + 1)])) ∧ (jLg b n)[2 * i + 1]? = some (.inl (0, 192, .inl (fun _ => 0)))
  | 0, i, h => absurd h (by omega)
  | n + 1, i, h => by
    rw [jLg]
    by_cases hi : i < n
    · have := jLg_at b n i hi
      rw [List.getElem?_append_left (by rw [jLg_len]; omega), List.getElem?_append_left (by rw [jLg_len]; omega)]
      exact this
    · have e : i = n := by omega
      subst e
      rw [List.getElem?_append_right (by rw [jLg_len]; omega), List.getElem?_append_right (by rw [jLg_len]; omega), jLg_len, show 2 * i - 2 * i = 0 by omega, show 2 * i + 1 - 2 * i = 1 by omega]
      exact ⟨rfl, rfl⟩
section JAN
variable (l : Launch) (D : va_G) (g : Nat × Nat)
set_option maxHeartbeats 8000000 in
set_option maxRecDepth 100000 in
theorem c_A_fill {X : ja_H} {a n b : Nat} {f0 : Nat → Option Nat} (h : X[a]? = some (.inl (4, n, .inr (.inr (.inr (.inr f0)))))) (hn : n < 2 ^ 20) (hb : X.length = b) : AMet l D g 2 (2 * n) (195 * n) m_A_fill [.ref a] X (fun r X' => r = none ∧ (∃ f : Nat → Option Nat, X'[a]? = some (.inl (4, n, .inr (.inr (.inr (.inr f))))) ∧ ∀ i, i < n → f i = some (b + 2 * i)) ∧ (∀ i, i < n → jLx X' (b + 2 * i)) ∧ ∀ k, k < b → k ≠ a → X'[k]? = X[k]?) := by
  have ha := (List.getElem?_eq_some_iff.mp h).1
  refine ja_metK (by decide) rfl (Nat.le_of_ble_eq_true rfl) fun K hB hF => ?_
  have loop : ∀ m i (f : Nat → Option Nat), i + m = n → (∀ j, j < i → f j = some (b + 2 * j)) → K 2 [.ref a, .int (nI i)] [] (X.set a (.inl (4, n, .inr (.inr (.inr (.inr f))))) ++ jLg b i) (2 * i) (195 * i) := by
    intro m
    induction m with
    | zero =>
      intro i f hi hf
      have e : i = n := by omega
      subst e
      have hlen : (X.set a (.inl (4, i, .inr (.inr (.inr (.inr f))))) ++ jLg b i).length = b + 2 * i := by rw [List.length_append, List.length_set, jLg_len, hb]
      have hat : (X.set a (.inl (4, i, .inr (.inr (.inr (.inr f))))) ++ jLg b i)[a]? = some (.inl (4, i, .inr (.inr (.inr (.inr f))))) := by rw [List.getElem?_append_left (by simp; exact ha), List.getElem?_set_self ha]
      refine kw_iload_n hB A_fill_2 rfl ?_
      refine kw_aload_n hB A_fill_3 rfl ?_
      refine kw_alen hB A_fill_4 hat rfl (v := nI i) rfl ?_
      refine kn_icmp_ge hB A_fill_5 (by omega) (by omega) (fun hc => ?_) (fun hc => absurd hc (by omega))
      refine kw_vret hF rfl A_fill_24 ⟨rfl, ⟨f, hat, hf⟩, fun j hj => ?_, fun k hk hka => ?_⟩ (by rw [hlen, hb])
      · have := jLg_at b i j hj
        refine ⟨0, 0, fun _ => 0, ?_, ?_⟩
        · rw [List.getElem?_append_right (by simp; omega), List.length_set, hb, show b + 2 * j - b = 2 * j by omega]; exact this.1
        · rw [List.getElem?_append_right (by simp; omega), List.length_set, hb, show b + 2 * j + 1 - b = 2 * j + 1 by omega]; exact this.2
      · rw [List.getElem?_append_left (by simp; omega), List.getElem?_set_ne (fun z => hka z.symm)]
    | succ m ih =>
      intro i f hi hf
      have hlen : (X.set a (.inl (4, n, .inr (.inr (.inr (.inr f))))) ++ jLg b i).length = b + 2 * i := by rw [List.length_append, List.length_set, jLg_len, hb]
      have hat : (X.set a (.inl (4, n, .inr (.inr (.inr (.inr f))))) ++ jLg b i)[a]? = some (.inl (4, n, .inr (.inr (.inr (.inr f))))) := by rw [List.getElem?_append_left (by simp; exact ha), List.getElem?_set_self ha]
      refine kw_iload_n hB A_fill_2 rfl ?_
      refine kw_aload_n hB A_fill_3 rfl ?_
      refine kw_alen hB A_fill_4 hat rfl (v := nI n) rfl ?_
      refine kn_icmp_ge hB A_fill_5 (by omega) (by omega) (fun hc => absurd hc (by omega)) (fun hc => ?_)
      refine kw_aload_n hB A_fill_8 rfl ?_
      refine kw_iload_n hB A_fill_9 rfl ?_
      refine kw_new hB A_fill_10 (ci := 0) (fs := [.int 0, .int 0, .null]) rfl ji_L jt_L jo_L (jm 157 (by decide +kernel) rfl) (jm 161 (by decide +kernel) rfl) (jm 72 (by decide +kernel) rfl) (by show ∀ j, j < 3 → defaultValue (jt_L j) = vp_V [.int 0, .int 0, .null] j; decide) (by omega) (by omega) ?_
      rw [hlen]
      refine kw_dup hB A_fill_13 rfl ?_
      refine kw_callI hB A_fill_14 s_A_42 im_L_init rfl rfl (As := []) (c_L_init' l D g hlen) rfl (by decide) (Nat.le_of_ble_eq_true rfl) (by omega) (by omega) (fun r X1 hq hl => ?_)
      obtain ⟨rfl, rfl⟩ := hq
      have hat2 : ((X.set a (.inl (4, n, .inr (.inr (.inr (.inr f))))) ++ jLg b i) ++ jcL (b + 2 * i))[a]? = some (.inl (4, n, .inr (.inr (.inr (.inr f))))) := by rw [List.getElem?_append_left (by rw [hlen]; omega)]; exact hat
      refine kw_aast hB A_fill_17 hat2 (r := (jR_L, jF_L, 3)) rfl (v := b + 2 * i) (ci := 0) (vs := [.int 0, .int 0, .ref (b + 2 * i + 1)]) (by rw [List.getElem?_append_right (by rw [hlen]; omega), hlen, Nat.sub_self]; rfl) rfl (vp_in_nI (by omega) (by omega)) ?_
      rw [nI_clamp (by omega), List.append_assoc, List.set_append_left _ _ (by simp; exact ha), List.set_set]
      refine kn_iinc hB A_fill_18 rfl (by decide) rfl ?_
      refine kw_goto hB A_fill_21 ?_
      have := ih (i + 1) (va_up f i (some (b + 2 * i))) (by omega) (fun j hj => by
        by_cases hji : j = i
        · subst hji; rw [jup_self]
        · rw [jup_ne hji]; exact hf j (by omega))
      rw [show 195 * (i + 1) = 195 * i + 3 + 192 by omega] at this
      exact this
  refine kw_iconst hB A_fill_0 (v := nI 0) (by decide) ?_
  refine kw_istore_n hB A_fill_1 rfl (by decide) rfl ?_
  have := loop n 0 f0 (by omega) (fun j hj => absurd hj (by omega))
  rw [ja_set_self h] at this
  rw [jLg, List.append_nil] at this
  exact this
def jA46 : ja_H := [.inl (4, 6, .inr (.inr (.inr (.inr (fun _ => none)))))] ++ [.inl (0, 24, .inl (fun _ => 0))] ++ (.inl (5, 6, .inr (.inr (.inr (.inr (fun i => if i < 6 then some (15 + i) else none))))) :: List.replicate 6 (.inl (0, 96, .inl (fun _ => 0)))) ++ [.inl (0, 6, .inl (fun _ => 0))] ++ [.inl (4, 5, .inr (.inr (.inr (.inr (fun _ => none)))))] ++ [.inl (4, 15, .inr (.inr (.inr (.inr (fun _ => none)))))] ++ [.inl (4, 15, .inr (.inr (.inr (.inr (fun _ => none)))))] ++ jcL 25 ++ jcL 27 ++ jcL 29 ++ jcB 31 ++ jcP 40 ++ jcQ 45 ++ jcG 50 ++ jcI 53
def jA11 : ja_C := .inr (7, [.ref 12, .ref 13, .int 0, .int 0, .ref 14, .ref 21, .ref 22, .ref 23, .ref 24, .ref 25, .ref 27, .ref 29, .ref 31, .ref 40, .ref 45, .ref 50, .ref 53])
set_option maxHeartbeats 16000000 in
set_option maxRecDepth 100000 in
theorem c_A_init' {A : ja_H} (hA : A.length = 11) {wt : Nat → Option (List Nat)} : AMet l D g 3 128 31966 m_A_init [.ref 11] (A ++ [.inr (7, [.null, .null, .int 0, .int 0, .null, .null, .null, .null, .null, .null, .null, .null, .null, .null, .null, .null, .null])]) (fun r X' => r = none ∧ jA0 X' 0 0 (fun _ => 0) ∧ jSk X' (fun _ => none) ∧ jLv X' 25 4 14 jatx ∧ jWv X' 0 wt ∧ ∀ k, k < 11 → X'[k]? = A[k]?) := by
  refine ja_metK (by decide) rfl (Nat.le_of_ble_eq_true rfl) fun K hB hF => ?_
  have tail : K 155 [.ref 11] [] (A ++ (jA11 :: jA46)) 46 23971 := by
    have hl0 : (A ++ (jA11 :: jA46)).length = 58 := jx_len hA (b := 46) rfl
    have at0 : ∀ i, (A ++ (jA11 :: jA46))[12 + i]? = jA46[i]? := fun i => jx_atB hA i
    have low0 : ∀ k, k < 11 → (A ++ (jA11 :: jA46))[k]? = A[k]? := fun k hk => List.getElem?_append_left (by omega)
    have h110 : (A ++ (jA11 :: jA46))[11]? = some jA11 := jx_at hA
    generalize A ++ (jA11 :: jA46) = X0 at hl0 at0 low0 h110
    refine kw_aload_n hB A_init_155 rfl ?_
    refine kw_getf hB A_init_156 f_A_15 h110 rfl ?_
    refine kw_callS hB A_init_159 s_A_88 st_A_fill (As := [.ref 12]) (c_A_fill l D g (X := X0) (a := 12) (n := 6) (f0 := fun _ => none) ((at0 0).trans rfl) (by decide) hl0) rfl (by decide) (Nat.le_of_ble_eq_true rfl) (by omega) (by omega) (fun r X1 hq hl => ?_)
    obtain ⟨rfl, p1, p2, p3⟩ := hq
    have hl1 : X1.length = 70 := by omega
    have h111 : X1[11]? = some jA11 := (p3 11 (by decide) (by decide)).trans h110
    refine kw_aload_n hB A_init_162 rfl ?_
    refine kw_getf hB A_init_163 f_A_33 h111 rfl ?_
    have n1 : X1[22]? = some (.inl (4, 5, .inr (.inr (.inr (.inr (fun _ => none)))))) := (p3 22 (by decide) (by decide)).trans ((at0 10).trans rfl)
    refine kw_callS hB A_init_166 s_A_88 st_A_fill (As := [.ref 22]) (c_A_fill l D g n1 (by decide) hl1) rfl (by decide) (Nat.le_of_ble_eq_true rfl) (by omega) (by omega) (fun r X2 hq2 hlb => ?_)
    obtain ⟨rfl, q1, q2, q3⟩ := hq2
    have hl2 : X2.length = 80 := by omega
    have h112 : X2[11]? = some jA11 := (q3 11 (by decide) (by decide)).trans h111
    refine kw_aload_n hB A_init_169 rfl ?_
    refine kw_getf hB A_init_170 f_A_36 h112 rfl ?_
    have n2 : X2[23]? = some (.inl (4, 15, .inr (.inr (.inr (.inr (fun _ => none)))))) := (q3 23 (by decide) (by decide)).trans ((p3 23 (by decide) (by decide)).trans ((at0 11).trans rfl))
    refine kw_callS hB A_init_173 s_A_88 st_A_fill (As := [.ref 23]) (c_A_fill l D g n2 (by decide) hl2) rfl (by decide) (Nat.le_of_ble_eq_true rfl) (by omega) (by omega) (fun r X3 hq3 hlc => ?_)
    obtain ⟨rfl, r1, r2, r3⟩ := hq3
    have hl3 : X3.length = 110 := by omega
    have h113 : X3[11]? = some jA11 := (r3 11 (by decide) (by decide)).trans h112
    refine kw_aload_n hB A_init_176 rfl ?_
    refine kw_getf hB A_init_177 f_A_39 h113 rfl ?_
    have n3 : X3[24]? = some (.inl (4, 15, .inr (.inr (.inr (.inr (fun _ => none)))))) := (r3 24 (by decide) (by decide)).trans ((q3 24 (by decide) (by decide)).trans ((p3 24 (by decide) (by decide)).trans ((at0 12).trans rfl)))
    refine kw_callS hB A_init_180 s_A_88 st_A_fill (As := [.ref 24]) (c_A_fill l D g n3 (by decide) hl3) rfl (by decide) (Nat.le_of_ble_eq_true rfl) (by omega) (by omega) (fun r X4 hq4 hld => ?_)
    obtain ⟨rfl, s1, s2, s3⟩ := hq4
    have hl4 : X4.length = 140 := by omega
    have h114 : X4[11]? = some jA11 := (s3 11 (by decide) (by decide)).trans h113
    refine kw_aload_n hB A_init_183 rfl ?_
    refine kw_getf hB A_init_184 f_A_43 h114 rfl ?_
    have cell : ∀ i, i < 46 → i ≠ 0 → i ≠ 10 → i ≠ 11 → i ≠ 12 → X4[12 + i]? = jA46[i]? := fun i h1 h2 h3 h4 h5 => (s3 _ (by omega) (by omega)).trans ((r3 _ (by omega) (by omega)).trans ((q3 _ (by omega) (by omega)).trans ((p3 _ (by omega) (by omega)).trans (at0 i))))
    have hat : jLr X4 25 0 0 (fun _ => 0) := ⟨(cell 13 (by decide) (by decide) (by decide) (by decide) (by decide)).trans rfl, (cell 14 (by decide) (by decide) (by decide) (by decide) (by decide)).trans rfl⟩
    refine kw_callV hB A_init_187 s_A_92 im_L_becomeAttacks se_L_becomeAttacks hat.1 rfl rfl (As := []) (c_L_becomeAttacks l D g hat) rfl (by decide) (Nat.le_of_ble_eq_true rfl) (by omega) (by omega) (fun r X1 hq hl => ?_)
    obtain ⟨rfl, rfl⟩ := hq
    have hf := jLs_fr X4 25 (nI 4) (nI 14) (jatk (fun _ => 0) 32)
    have h25 : jLr (jLs X4 25 (nI 4) (nI 14) (jatk (fun _ => 0) 32)) 25 (nI 4) (nI 14) (jatk (fun _ => 0) 32) := jLs_r _ _ _ hat.lt
    have hl5 : (jLs X4 25 (nI 4) (nI 14) (jatk (fun _ => 0) 32)).length = 140 := by rw [jLs_len]; exact hl4
    generalize jLs X4 25 (nI 4) (nI 14) (jatk (fun _ => 0) 32) = X5 at hf h25 hl5
    have mm : ∀ k ∈ [25, 25 + 1], k = 25 ∨ k = 26 := fun k hk => by simpa using hk
    have nn : ∀ k, k ≠ 25 → k ≠ 26 → k ∉ [25, 25 + 1] := fun k h1 h2 z => by have := mm k z; omega
    have c5 : ∀ i c, jA46[i]? = some c → i < 46 → i ≠ 0 → i ≠ 10 → i ≠ 11 → i ≠ 12 → i ≠ 13 → i ≠ 14 → X5[12 + i]? = some c := fun i c hc h1 h2 h3 h4 h5 h6 h7 => hf.at (nn _ (by omega) (by omega)) ((cell i h1 h2 h3 h4 h5).trans hc)
    refine kw_vret hF rfl A_init_190 ?_ (by rw [hl5]; simp [hA])
    have lg : ∀ i, i < 45 → i ≠ 0 → i ≠ 10 → i ≠ 11 → i ≠ 12 → i ≠ 13 → i ≠ 14 → i ≠ 9 → jA46[i]? = some (.inr (0, [.int 0, .int 0, .ref (12 + i + 1)])) → jA46[i + 1]? = some (.inl (0, 192, .inl (fun _ => 0))) → jLx X5 (12 + i) := fun i h1 h2 h3 h4 h5 h6 h7 h8 e1 e2 => ⟨0, 0, fun _ => 0, c5 i _ e1 (by omega) h2 h3 h4 h5 h6 h7, c5 (i + 1) _ e2 (by omega) (by omega) (by omega) (by omega) (by omega) (by omega) (by omega)⟩
    obtain ⟨fp, fp1, fp2⟩ := p1
    obtain ⟨fq, fq1, fq2⟩ := q1
    obtain ⟨fr, fr1, fr2⟩ := r1
    obtain ⟨ft, ft1, ft2⟩ := s1
    have mv : ∀ {Y Z : ja_H} {b a : Nat}, (∀ k, k < b → k ≠ a → Z[k]? = Y[k]?) → ∀ {q : Nat}, q + 1 < b → q ≠ a → q + 1 ≠ a → jLx Y q → jLx Z q := fun hh q' h1 h2 h3 ⟨n', g', f', e1, e2⟩ => ⟨n', g', f', (hh _ (by omega) h2).trans e1, (hh _ h1 h3).trans e2⟩
    refine ⟨rfl, ⟨hf.at (nn _ (by decide) (by decide)) h114, ⟨lg 15 (by decide) (by decide) (by decide) (by decide) (by decide) (by decide) (by decide) (by decide) rfl rfl, lg 17 (by decide) (by decide) (by decide) (by decide) (by decide) (by decide) (by decide) (by decide) rfl rfl, ?_, ⟨0, c5 28 _ rfl (by decide) (by decide) (by decide) (by decide) (by decide) (by decide) (by decide)⟩, lg 29 (by decide) (by decide) (by decide) (by decide) (by decide) (by decide) (by decide) (by decide) rfl rfl, lg 31 (by decide) (by decide) (by decide) (by decide) (by decide) (by decide) (by decide) (by decide) rfl rfl, c5 33 _ rfl (by decide) (by decide) (by decide) (by decide) (by decide) (by decide) (by decide), lg 34 (by decide) (by decide) (by decide) (by decide) (by decide) (by decide) (by decide) (by decide) rfl rfl, lg 36 (by decide) (by decide) (by decide) (by decide) (by decide) (by decide) (by decide) (by decide) rfl rfl, c5 38 _ rfl (by decide) (by decide) (by decide) (by decide) (by decide) (by decide) (by decide), lg 39 (by decide) (by decide) (by decide) (by decide) (by decide) (by decide) (by decide) (by decide) rfl rfl, ?_⟩, ⟨fq, ?_, fq2⟩, ⟨fr, ?_, fr2⟩, ⟨ft, ?_, ft2⟩, ?_, ?_, ?_, c5 1 _ rfl (by decide) (by decide) (by decide) (by decide) (by decide) (by decide) (by decide)⟩, ⟨⟨fp, ?_, fp2⟩, ?_⟩, ?_, ?_, fun k hk => ?_⟩
    · refine ⟨0, fun _ => 0, fun _ => 0, fun _ => 0, jfl (fun _ => 0) 0 1536 (-1), fun _ => 0, fun _ => 0, fun _ => 0, fun _ => 0, ⟨?_, ?_, ?_, ?_, ?_, ?_, ?_, ?_, ?_⟩, fun k hk => by unfold jfl; rw [if_pos ⟨by omega, hk⟩]⟩
      · exact c5 19 _ rfl (by decide) (by decide) (by decide) (by decide) (by decide) (by decide) (by decide)
      · exact c5 20 _ rfl (by decide) (by decide) (by decide) (by decide) (by decide) (by decide) (by decide)
      · exact c5 21 _ rfl (by decide) (by decide) (by decide) (by decide) (by decide) (by decide) (by decide)
      · exact c5 22 _ rfl (by decide) (by decide) (by decide) (by decide) (by decide) (by decide) (by decide)
      · exact c5 23 _ rfl (by decide) (by decide) (by decide) (by decide) (by decide) (by decide) (by decide)
      · exact c5 24 _ rfl (by decide) (by decide) (by decide) (by decide) (by decide) (by decide) (by decide)
      · exact c5 25 _ rfl (by decide) (by decide) (by decide) (by decide) (by decide) (by decide) (by decide)
      · exact c5 26 _ rfl (by decide) (by decide) (by decide) (by decide) (by decide) (by decide) (by decide)
      · exact c5 27 _ rfl (by decide) (by decide) (by decide) (by decide) (by decide) (by decide) (by decide)
    · exact ⟨lg 42 (by decide) (by decide) (by decide) (by decide) (by decide) (by decide) (by decide) (by decide) rfl rfl, fun _ => 0, fun _ => 0, ⟨c5 41 _ rfl (by decide) (by decide) (by decide) (by decide) (by decide) (by decide) (by decide), c5 44 _ rfl (by decide) (by decide) (by decide) (by decide) (by decide) (by decide) (by decide), c5 45 _ rfl (by decide) (by decide) (by decide) (by decide) (by decide) (by decide) (by decide)⟩, rfl⟩
    · exact hf.at (nn _ (by decide) (by decide)) ((s3 _ (by decide) (by decide)).trans ((r3 _ (by decide) (by decide)).trans fq1))
    · exact hf.at (nn _ (by decide) (by decide)) ((s3 _ (by decide) (by decide)).trans fr1)
    · exact hf.at (nn _ (by decide) (by decide)) ft1
    · exact fun v hv => (mv s3 (by omega) (by omega) (by omega) (mv r3 (by omega) (by omega) (by omega) (q2 v hv))).fr hf (nn _ (by omega) (by omega)) (nn _ (by omega) (by omega))
    · exact fun v hv => (mv s3 (by omega) (by omega) (by omega) (r2 v hv)).fr hf (nn _ (by omega) (by omega)) (nn _ (by omega) (by omega))
    · exact fun v hv => (s2 v hv).fr hf (nn _ (by omega) (by omega)) (nn _ (by omega) (by omega))
    · exact hf.at (nn _ (by decide) (by decide)) ((s3 _ (by decide) (by decide)).trans ((r3 _ (by decide) (by decide)).trans ((q3 _ (by decide) (by decide)).trans fp1)))
    · exact fun v hv => ⟨(mv s3 (by omega) (by omega) (by omega) (mv r3 (by omega) (by omega) (by omega) (mv q3 (by omega) (by omega) (by omega) (p2 v hv)))).fr hf (nn _ (by omega) (by omega)) (nn _ (by omega) (by omega)), fun L' e => (by cases e)⟩
    · refine ⟨_, h25, fun i hi => ?_, by decide, by decide, by decide, fun i hi => ?_⟩
      · simp only [jatk]
        rw [if_pos (by omega)]
        rfl
      · exact jread_lt _ _
    · refine ⟨fun i => if i < 6 then some (15 + i) else none, fun _ => 0, c5 2 _ rfl (by decide) (by decide) (by decide) (by decide) (by decide) (by decide) (by decide), fun k hk => if_pos hk, c5 9 _ rfl (by decide) (by decide) (by decide) (by decide) (by decide) (by decide) (by decide), fun k hk => ⟨fun _ => 0, ?_, fun z => absurd z (by omega)⟩⟩
      have e : jA46[3 + k]? = some (.inl (0, 96, .inl (fun _ => 0))) := by
        rcases (by omega : k = 0 ∨ k = 1 ∨ k = 2 ∨ k = 3 ∨ k = 4 ∨ k = 5) with rfl | rfl | rfl | rfl | rfl | rfl <;> rfl
      have := c5 (3 + k) _ e (by omega) (by omega) (by omega) (by omega) (by omega) (by omega) (by omega)
      rw [show 12 + (3 + k) = 15 + k by omega] at this
      exact this
    · exact (hf.2 _ (nn _ (by omega) (by omega))).trans ((s3 _ (by omega) (by omega)).trans ((r3 _ (by omega) (by omega)).trans ((q3 _ (by omega) (by omega)).trans ((p3 _ (by omega) (by omega)).trans (low0 k hk)))))
  refine kw_aload_n hB A_init_0 rfl ?_
  refine kw_objInit hB A_init_1 (jm 156 (by decide +kernel) rfl) (jm 90 (by decide +kernel) rfl) (jm 91 (by decide +kernel) rfl) (by decide) (Nat.le_of_ble_eq_true rfl) ?_
  show K 4 [.ref 11] [] (A ++ (.inr (7, [.null, .null, .int 0, .int 0, .null, .null, .null, .null, .null, .null, .null, .null, .null, .null, .null, .null, .null]) :: [])) 0 0
  refine kw_aload_n hB A_init_4 rfl ?_
  refine kw_bipush hB A_init_5 (v := nI 6) (by decide) ?_
  refine kx_newq hB hA (b := 0) rfl A_init_7 (t := 4) rfl (jm 157 (by decide +kernel) rfl) (by decide) (by decide) (N' := 6) (by decide) (by decide) (by decide) (by decide) ?_
  refine kx_putF hB hA A_init_10 ⟨_, rfl, ji_A, by decide, (jm 309 (by decide +kernel) rfl)⟩ jc_A jw_A_0 rfl (Nat.le_of_ble_eq_true rfl) rfl rfl (fs' := [.ref (11 + 1), .null, .int 0, .int 0, .null, .null, .null, .null, .null, .null, .null, .null, .null, .null, .null, .null, .null]) rfl ?_
  refine kw_aload_n hB A_init_13 rfl ?_
  refine kw_bipush hB A_init_14 (v := nI 24) (by decide) ?_
  refine kx_newa hB hA (b := 1) rfl (N' := 24) (a0 := (24, .inl (fun _ => 0))) A_init_16 rfl (t := 0) rfl (jm 150 (by decide +kernel) rfl) (fun cA => rfl) (by decide) (by decide) (by decide) (by decide) (by decide) ?_
  refine kx_putF hB hA A_init_18 ⟨_, rfl, ji_A, by decide, (jm 311 (by decide +kernel) rfl)⟩ jc_A jw_A_1 rfl (Nat.le_of_ble_eq_true rfl) rfl rfl (fs' := [.ref (11 + 1), .ref (11 + 2), .int 0, .int 0, .null, .null, .null, .null, .null, .null, .null, .null, .null, .null, .null, .null, .null]) rfl ?_
  refine kw_aload_n hB A_init_21 rfl ?_
  refine kw_bipush hB A_init_22 (v := nI 6) (by decide) ?_
  refine kw_bipush hB A_init_24 (v := nI 96) (by decide) ?_
  refine kx_mna hB hA (b := 2) rfl A_init_26 (jm 159 (by decide +kernel) rfl) (jm 150 (by decide +kernel) rfl) (by decide) (by decide) (N' := 6) (K' := 96) (by decide) (by decide) (by decide) (by decide) (by decide) (by decide) ?_
  refine kx_putF hB hA A_init_30 ⟨_, rfl, ji_A, by decide, (jm 317 (by decide +kernel) rfl)⟩ jc_A jw_A_4 rfl (Nat.le_of_ble_eq_true rfl) rfl rfl (fs' := [.ref (11 + 1), .ref (11 + 2), .int 0, .int 0, .ref (11 + 3), .null, .null, .null, .null, .null, .null, .null, .null, .null, .null, .null, .null]) rfl ?_
  refine kw_aload_n hB A_init_33 rfl ?_
  refine kw_bipush hB A_init_34 (v := nI 6) (by decide) ?_
  refine kx_newa hB hA (b := 9) rfl (N' := 6) (a0 := (6, .inl (fun _ => 0))) A_init_36 rfl (t := 0) rfl (jm 150 (by decide +kernel) rfl) (fun cA => rfl) (by decide) (by decide) (by decide) (by decide) (by decide) ?_
  refine kx_putF hB hA A_init_38 ⟨_, rfl, ji_A, by decide, (jm 318 (by decide +kernel) rfl)⟩ jc_A jw_A_5 rfl (Nat.le_of_ble_eq_true rfl) rfl rfl (fs' := [.ref (11 + 1), .ref (11 + 2), .int 0, .int 0, .ref (11 + 3), .ref (11 + 10), .null, .null, .null, .null, .null, .null, .null, .null, .null, .null, .null]) rfl ?_
  refine kw_aload_n hB A_init_41 rfl ?_
  refine kw_iconst hB A_init_42 (v := nI 5) (by decide) ?_
  refine kx_newq hB hA (b := 10) rfl A_init_43 (t := 4) rfl (jm 157 (by decide +kernel) rfl) (by decide) (by decide) (N' := 5) (by decide) (by decide) (by decide) (by decide) ?_
  refine kx_putF hB hA A_init_46 ⟨_, rfl, ji_A, by decide, (jm 319 (by decide +kernel) rfl)⟩ jc_A jw_A_6 rfl (Nat.le_of_ble_eq_true rfl) rfl rfl (fs' := [.ref (11 + 1), .ref (11 + 2), .int 0, .int 0, .ref (11 + 3), .ref (11 + 10), .ref (11 + 11), .null, .null, .null, .null, .null, .null, .null, .null, .null, .null]) rfl ?_
  refine kw_aload_n hB A_init_49 rfl ?_
  refine kw_bipush hB A_init_50 (v := nI 15) (by decide) ?_
  refine kx_newq hB hA (b := 11) rfl A_init_52 (t := 4) rfl (jm 157 (by decide +kernel) rfl) (by decide) (by decide) (N' := 15) (by decide) (by decide) (by decide) (by decide) ?_
  refine kx_putF hB hA A_init_55 ⟨_, rfl, ji_A, by decide, (jm 320 (by decide +kernel) rfl)⟩ jc_A jw_A_7 rfl (Nat.le_of_ble_eq_true rfl) rfl rfl (fs' := [.ref (11 + 1), .ref (11 + 2), .int 0, .int 0, .ref (11 + 3), .ref (11 + 10), .ref (11 + 11), .ref (11 + 12), .null, .null, .null, .null, .null, .null, .null, .null, .null]) rfl ?_
  refine kw_aload_n hB A_init_58 rfl ?_
  refine kw_bipush hB A_init_59 (v := nI 15) (by decide) ?_
  refine kx_newq hB hA (b := 12) rfl A_init_61 (t := 4) rfl (jm 157 (by decide +kernel) rfl) (by decide) (by decide) (N' := 15) (by decide) (by decide) (by decide) (by decide) ?_
  refine kx_putF hB hA A_init_64 ⟨_, rfl, ji_A, by decide, (jm 321 (by decide +kernel) rfl)⟩ jc_A jw_A_8 rfl (Nat.le_of_ble_eq_true rfl) rfl rfl (fs' := [.ref (11 + 1), .ref (11 + 2), .int 0, .int 0, .ref (11 + 3), .ref (11 + 10), .ref (11 + 11), .ref (11 + 12), .ref (11 + 13), .null, .null, .null, .null, .null, .null, .null, .null]) rfl ?_
  refine kw_aload_n hB A_init_67 rfl ?_
  refine kx_new hB hA (b := 13) rfl A_init_68 (ci := 0) (fs := [.int 0, .int 0, .null]) rfl ji_L jt_L jo_L (jm 157 (by decide +kernel) rfl) (jm 161 (by decide +kernel) rfl) (jm 72 (by decide +kernel) rfl) (fun _ => rfl) (by decide) (by decide) (by decide) ?_
  refine kw_dup hB A_init_71 rfl ?_
  refine kw_callI hB A_init_72 s_A_42 im_L_init rfl rfl (As := []) (x_of l D g (c_L_init' l D g) hA (b := 13) rfl) rfl (by decide) (Nat.le_of_ble_eq_true rfl) (by omega) (by omega) (fun r X1 hq hl => ?_)
  obtain ⟨rfl, rfl⟩ := hq
  refine kx_putF hB hA A_init_75 ⟨_, rfl, ji_A, by decide, (jm 322 (by decide +kernel) rfl)⟩ jc_A jw_A_9 rfl (Nat.le_of_ble_eq_true rfl) rfl rfl (fs' := [.ref (11 + 1), .ref (11 + 2), .int 0, .int 0, .ref (11 + 3), .ref (11 + 10), .ref (11 + 11), .ref (11 + 12), .ref (11 + 13), .ref (11 + 14), .null, .null, .null, .null, .null, .null, .null]) rfl ?_
  refine kw_aload_n hB A_init_78 rfl ?_
  refine kx_new hB hA (b := 15) rfl A_init_79 (ci := 0) (fs := [.int 0, .int 0, .null]) rfl ji_L jt_L jo_L (jm 157 (by decide +kernel) rfl) (jm 161 (by decide +kernel) rfl) (jm 72 (by decide +kernel) rfl) (fun _ => rfl) (by decide) (by decide) (by decide) ?_
  refine kw_dup hB A_init_82 rfl ?_
  refine kw_callI hB A_init_83 s_A_42 im_L_init rfl rfl (As := []) (x_of l D g (c_L_init' l D g) hA (b := 15) rfl) rfl (by decide) (Nat.le_of_ble_eq_true rfl) (by omega) (by omega) (fun r X1 hq hl => ?_)
  obtain ⟨rfl, rfl⟩ := hq
  refine kx_putF hB hA A_init_86 ⟨_, rfl, ji_A, by decide, (jm 323 (by decide +kernel) rfl)⟩ jc_A jw_A_10 rfl (Nat.le_of_ble_eq_true rfl) rfl rfl (fs' := [.ref (11 + 1), .ref (11 + 2), .int 0, .int 0, .ref (11 + 3), .ref (11 + 10), .ref (11 + 11), .ref (11 + 12), .ref (11 + 13), .ref (11 + 14), .ref (11 + 16), .null, .null, .null, .null, .null, .null]) rfl ?_
  refine kw_aload_n hB A_init_89 rfl ?_
  refine kx_new hB hA (b := 17) rfl A_init_90 (ci := 0) (fs := [.int 0, .int 0, .null]) rfl ji_L jt_L jo_L (jm 157 (by decide +kernel) rfl) (jm 161 (by decide +kernel) rfl) (jm 72 (by decide +kernel) rfl) (fun _ => rfl) (by decide) (by decide) (by decide) ?_
  refine kw_dup hB A_init_93 rfl ?_
  refine kw_callI hB A_init_94 s_A_42 im_L_init rfl rfl (As := []) (x_of l D g (c_L_init' l D g) hA (b := 17) rfl) rfl (by decide) (Nat.le_of_ble_eq_true rfl) (by omega) (by omega) (fun r X1 hq hl => ?_)
  obtain ⟨rfl, rfl⟩ := hq
  refine kx_putF hB hA A_init_97 ⟨_, rfl, ji_A, by decide, (jm 324 (by decide +kernel) rfl)⟩ jc_A jw_A_11 rfl (Nat.le_of_ble_eq_true rfl) rfl rfl (fs' := [.ref (11 + 1), .ref (11 + 2), .int 0, .int 0, .ref (11 + 3), .ref (11 + 10), .ref (11 + 11), .ref (11 + 12), .ref (11 + 13), .ref (11 + 14), .ref (11 + 16), .ref (11 + 18), .null, .null, .null, .null, .null]) rfl ?_
  refine kw_aload_n hB A_init_100 rfl ?_
  refine kx_new hB hA (b := 19) rfl A_init_101 (ci := 2) (fs := [.int 0, .null, .null, .null, .null, .null, .null, .null, .null]) rfl ji_B jt_B jo_B (jm 180 (by decide +kernel) rfl) (jm 181 (by decide +kernel) rfl) (jm 73 (by decide +kernel) rfl) (fun _ => rfl) (by decide) (by decide) (by decide) ?_
  refine kw_dup hB A_init_104 rfl ?_
  refine kw_callI hB A_init_105 s_A_55 im_B_init rfl rfl (As := []) (x_of l D g (c_B_init' l D g) hA (b := 19) rfl) rfl (by decide) (Nat.le_of_ble_eq_true rfl) (by omega) (by omega) (fun r X1 hq hl => ?_)
  obtain ⟨rfl, rfl⟩ := hq
  refine kx_putF hB hA A_init_108 ⟨_, rfl, ji_A, by decide, (jm 325 (by decide +kernel) rfl)⟩ jc_A jw_A_12 rfl (Nat.le_of_ble_eq_true rfl) rfl rfl (fs' := [.ref (11 + 1), .ref (11 + 2), .int 0, .int 0, .ref (11 + 3), .ref (11 + 10), .ref (11 + 11), .ref (11 + 12), .ref (11 + 13), .ref (11 + 14), .ref (11 + 16), .ref (11 + 18), .ref (11 + 20), .null, .null, .null, .null]) rfl ?_
  refine kw_aload_n hB A_init_111 rfl ?_
  refine kx_new hB hA (b := 28) rfl A_init_112 (ci := 3) (fs := [.null, .null, .int 0]) rfl ji_P jt_P jo_P (jm 219 (by decide +kernel) rfl) (jm 220 (by decide +kernel) rfl) (jm 76 (by decide +kernel) rfl) (fun _ => rfl) (by decide) (by decide) (by decide) ?_
  refine kw_dup hB A_init_115 rfl ?_
  refine kw_callI hB A_init_116 s_A_62 im_P_init rfl rfl (As := []) (x_of l D g (c_P_init' l D g) hA (b := 28) rfl) rfl (by decide) (Nat.le_of_ble_eq_true rfl) (by omega) (by omega) (fun r X1 hq hl => ?_)
  obtain ⟨rfl, rfl⟩ := hq
  refine kx_putF hB hA A_init_119 ⟨_, rfl, ji_A, by decide, (jm 326 (by decide +kernel) rfl)⟩ jc_A jw_A_13 rfl (Nat.le_of_ble_eq_true rfl) rfl rfl (fs' := [.ref (11 + 1), .ref (11 + 2), .int 0, .int 0, .ref (11 + 3), .ref (11 + 10), .ref (11 + 11), .ref (11 + 12), .ref (11 + 13), .ref (11 + 14), .ref (11 + 16), .ref (11 + 18), .ref (11 + 20), .ref (11 + 29), .null, .null, .null]) rfl ?_
  refine kw_aload_n hB A_init_122 rfl ?_
  refine kx_new hB hA (b := 33) rfl A_init_123 (ci := 4) (fs := [.null, .null]) rfl ji_Q jt_Q jo_Q (jm 240 (by decide +kernel) rfl) (jm 241 (by decide +kernel) rfl) (jm 77 (by decide +kernel) rfl) (fun _ => rfl) (by decide) (by decide) (by decide) ?_
  refine kw_dup hB A_init_126 rfl ?_
  refine kw_callI hB A_init_127 s_A_69 im_Q_init rfl rfl (As := []) (x_of l D g (c_Q_init' l D g) hA (b := 33) rfl) rfl (by decide) (Nat.le_of_ble_eq_true rfl) (by omega) (by omega) (fun r X1 hq hl => ?_)
  obtain ⟨rfl, rfl⟩ := hq
  refine kx_putF hB hA A_init_130 ⟨_, rfl, ji_A, by decide, (jm 327 (by decide +kernel) rfl)⟩ jc_A jw_A_14 rfl (Nat.le_of_ble_eq_true rfl) rfl rfl (fs' := [.ref (11 + 1), .ref (11 + 2), .int 0, .int 0, .ref (11 + 3), .ref (11 + 10), .ref (11 + 11), .ref (11 + 12), .ref (11 + 13), .ref (11 + 14), .ref (11 + 16), .ref (11 + 18), .ref (11 + 20), .ref (11 + 29), .ref (11 + 34), .null, .null]) rfl ?_
  refine kw_aload_n hB A_init_133 rfl ?_
  refine kx_new hB hA (b := 38) rfl A_init_134 (ci := 5) (fs := [.null]) rfl ji_G jt_G jo_G (jm 255 (by decide +kernel) rfl) (jm 256 (by decide +kernel) rfl) (jm 78 (by decide +kernel) rfl) (fun _ => rfl) (by decide) (by decide) (by decide) ?_
  refine kw_dup hB A_init_137 rfl ?_
  refine kw_callI hB A_init_138 s_A_76 im_G_init rfl rfl (As := []) (x_of l D g (c_G_init' l D g) hA (b := 38) rfl) rfl (by decide) (Nat.le_of_ble_eq_true rfl) (by omega) (by omega) (fun r X1 hq hl => ?_)
  obtain ⟨rfl, rfl⟩ := hq
  refine kx_putF hB hA A_init_141 ⟨_, rfl, ji_A, by decide, (jm 328 (by decide +kernel) rfl)⟩ jc_A jw_A_15 rfl (Nat.le_of_ble_eq_true rfl) rfl rfl (fs' := [.ref (11 + 1), .ref (11 + 2), .int 0, .int 0, .ref (11 + 3), .ref (11 + 10), .ref (11 + 11), .ref (11 + 12), .ref (11 + 13), .ref (11 + 14), .ref (11 + 16), .ref (11 + 18), .ref (11 + 20), .ref (11 + 29), .ref (11 + 34), .ref (11 + 39), .null]) rfl ?_
  refine kw_aload_n hB A_init_144 rfl ?_
  refine kx_new hB hA (b := 41) rfl A_init_145 (ci := 6) (fs := [.null, .null, .null]) rfl ji_I jt_I jo_I (jm 267 (by decide +kernel) rfl) (jm 268 (by decide +kernel) rfl) (jm 79 (by decide +kernel) rfl) (fun _ => rfl) (by decide) (by decide) (by decide) ?_
  refine kw_dup hB A_init_148 rfl ?_
  refine kw_callI hB A_init_149 s_A_83 im_I_init rfl rfl (As := []) (x_of l D g (c_I_init' l D g) hA (b := 41) rfl) rfl (by decide) (Nat.le_of_ble_eq_true rfl) (by omega) (by omega) (fun r X1 hq hl => ?_)
  obtain ⟨rfl, rfl⟩ := hq
  refine kx_putF hB hA A_init_152 ⟨_, rfl, ji_A, by decide, (jm 329 (by decide +kernel) rfl)⟩ jc_A jw_A_16 rfl (Nat.le_of_ble_eq_true rfl) rfl rfl (fs' := [.ref (11 + 1), .ref (11 + 2), .int 0, .int 0, .ref (11 + 3), .ref (11 + 10), .ref (11 + 11), .ref (11 + 12), .ref (11 + 13), .ref (11 + 14), .ref (11 + 16), .ref (11 + 18), .ref (11 + 20), .ref (11 + 29), .ref (11 + 34), .ref (11 + 39), .ref (11 + 42)]) rfl ?_
  exact tail
end JAN
