-- Interpreter
def jNv (X : ja_H) (q : Nat) (ip val wd pl : Nat → Nat) (hn : Nat) (ed : Int32) : Prop := ∃ (ipf plf : Nat → Int32) (wdf vlf : Nat → Int64), jNr X q ipf wdf plf ed (nI hn) vlf ∧ (∀ i, i < 3 → ipf i = nI (ip i) ∧ jdg 4 (ip i) ∧ ip i < 2 ^ 24) ∧ (∀ i, i < 20 → i < hn → wdf i = lN (wd i) ∧ plf i = nI (pl i)) ∧ ∀ v, v < 5 → vlf v = lN (val v) ∧ jwv (val v)
/-- one line of a program: where it goes on (none: the line is overlong), the values, what has been handed -/
def jN1 (K V A B M ip : Nat → Nat) (at' : Nat) (s : (Nat → Nat) × Nat × (Nat → Nat) × (Nat → Nat)) : Option Nat × (Nat → Nat) × Nat × (Nat → Nat) × (Nat → Nat) :=
  if K at' = 0 then (some (at' + 1), va_up s.1 (V at') (jmap (fun c => jlet c false) (A at')), s.2)
  else if K at' = 1 then (some (at' + 1), va_up s.1 (V at') (jmap (fun c => jlet c true) (ip (A at'))), s.2)
  else if K at' = 2 then (if jcat (s.1 (A at')) (s.1 (B at')) = jOV then (none, s) else (some (at' + 1), va_up s.1 (V at') (jcat (s.1 (A at')) (s.1 (B at'))), s.2))
  else if K at' = 3 then (if japp (B at') (s.1 (A at')) = jOV then (none, s) else (some (at' + 1), va_up s.1 (V at') (japp (B at') (s.1 (A at'))), s.2))
  else if K at' = 4 then (some (at' + 1), s.1, s.2.1 + 1, (if s.2.1 < 20 then va_up s.2.2.1 s.2.1 (s.1 (V at')) else s.2.2.1), (if s.2.1 < 20 then va_up s.2.2.2 s.2.1 (A at') else s.2.2.2))
  else if K at' = 5 ∨ K at' = 7 then (some (if jmeet (s.1 (V at')) (A at') (B at') then at' + 1 else M at' + 1), s)
  else if K at' = 6 then (some (M at' + 1), s)
  else if K at' = 9 then (some (M at'), s)
  else (some (at' + 1), s)
/-- a program's lines as numbers, as the interpreter and the analysis need them -/
def jRv (X : ja_H) (p n : Nat) (K V A B M L : Nat → Nat) : Prop := ∃ (kd vr fs sc mt lv pt hd : Nat → Int32) (sk op : Int32), jRr X p kd vr fs sc mt lv (nI n) sk op pt hd ∧ n ≤ 24 ∧ ∀ i, i < n → kd i = nI (K i) ∧ vr i = nI (V i) ∧ fs i = nI (A i) ∧ sc i = nI (B i) ∧ K i < 10 ∧ V i < 5 ∧ (K i = 0 → jdg 4 (A i) ∧ A i < 2 ^ 24) ∧ (K i = 1 → A i < 3) ∧ (K i = 2 → A i < 5 ∧ B i < 5) ∧ (K i = 3 → A i < 5 ∧ B i < 3) ∧ (K i = 4 → A i < 6) ∧ (K i = 5 ∨ K i = 7 → A i < 3 ∧ 1 ≤ B i ∧ B i ≤ 4) ∧ (5 ≤ K i → mt i = nI (M i) ∧ M i < n) ∧ (K i = 5 ∨ 7 ≤ K i → lv i = nI (L i) ∧ L i < 3)
theorem jRv.fr {X Y : ja_H} {p n : Nat} {K V A B M L : Nat → Nat} {S : List Nat} (h : jRv X p n K V A B M L) (hf : jfr S X Y) (hS : ∀ k ∈ S, k < p ∨ p + 8 < k) : jRv Y p n K V A B M L := by
  obtain ⟨kd, vr, fs, sc, mt, lv, pt, hd, sk, op, a, b⟩ := h
  exact ⟨kd, vr, fs, sc, mt, lv, pt, hd, sk, op, a.fr hf hS, b⟩
section JN
variable (l : Launch) (D : va_G) (g : Nat × Nat) {X : ja_H}
set_option maxHeartbeats 4000000 in
set_option maxRecDepth 100000 in
theorem c_N_put {q at' v w hn : Nat} {ed : Int32} {ip val wd pl : Nat → Nat} (h : jNv X q ip val wd pl hn ed) (hv : v < 5) (hat : at' < 24) (hw : w = jOV ∨ jwv w) : AMet l D g 0 0 0 m_N_put [.ref q, .int (nI at'), .int (nI v), .long (lN w)] X (fun r X' => (w = jOV → r = some (.int (-1)) ∧ X' = X) ∧ (w ≠ jOV → r = some (.int (nI (at' + 1))) ∧ jNv X' q ip (va_up val v w) wd pl hn ed ∧ jfr (jNrS q) X X')) := by
  obtain ⟨ipf, plf, wdf, vlf, h0, hip, hwd, hvl⟩ := h
  have hwl : w < 2 ^ 64 := by
    rcases hw with z | z
    · rw [z]; decide
    · have := z.2; omega
  refine ja_metK (by decide) rfl (Nat.le_of_ble_eq_true rfl) fun K hB hF => ?_
  refine kw_lload_n hB N_put_0 rfl ?_
  refine kw_ldc2 hB N_put_1 (v := lN jOV) (jm 811 (by decide +kernel) rfl) ?_
  refine kl_cmp_ne hB N_put_4 N_put_5 hwl (by decide) (fun hc => ?_) (fun hc => ?_)
  · refine kw_aload_n hB N_put_10 rfl ?_
    refine kw_getf hB N_put_11 f_N_26 h0.1 rfl ?_
    refine kw_iload_n hB N_put_14 rfl ?_
    refine kw_lload_n hB N_put_15 rfl ?_
    refine kn_last hB N_put_16 h0.2.2.2.2 rfl (by omega) (by decide) ?_
    have h1 := h0.s_vl (vl' := vp_updL vlf v (lN w))
    have e1 := jNrS_set X q 4 (.inl (1, 5, .inr (.inl (vp_updL vlf v (lN w))))) (by decide)
    generalize X.set (q + 4) (.inl (1, 5, .inr (.inl (vp_updL vlf v (lN w))))) = Y at h1 e1 ⊢
    refine kw_iload_n hB N_put_17 rfl ?_
    refine kw_iconst hB N_put_18 (v := nI 1) (by decide) ?_
    refine kn_iadd hB N_put_19 ?_
    refine kw_iret hF rfl N_put_20 ?_ (by rw [e1.1]; rfl)
    refine ⟨fun z => absurd z hc, fun _ => ⟨rfl, ⟨ipf, plf, wdf, _, h1, hip, hwd, fun u hu => ?_⟩, e1⟩⟩
    by_cases huv : u = v
    · subst huv
      rw [pk_uLs, jup_self]
      exact ⟨rfl, hw.resolve_left hc⟩
    · rw [pk_uLn huv, jup_ne huv]; exact hvl u hu
  · refine kw_iconst hB N_put_8 (v := -1) (by decide) ?_
    refine kw_iret hF rfl N_put_9 ?_ (by first | (simp [jLs_len]; done) | (simp [*]; done))
    exact ⟨fun _ => ⟨rfl, rfl⟩, fun z => absurd hc z⟩
set_option maxHeartbeats 4000000 in
set_option maxRecDepth 100000 in
theorem c_N_hand {q k w hn : Nat} {ed : Int32} {ip val wd pl : Nat → Nat} (h : jNv X q ip val wd pl hn ed) (hh : hn < 2 ^ 30) : AMet l D g 0 0 0 m_N_hand [.ref q, .int (nI k), .long (lN w)] X (fun r X' => r = none ∧ jNv X' q ip val (if hn < 20 then va_up wd hn w else wd) (if hn < 20 then va_up pl hn k else pl) (hn + 1) ed ∧ jfr (jNrS q) X X') := by
  obtain ⟨ipf, plf, wdf, vlf, h0, hip, hwd, hvl⟩ := h
  refine ja_metK (by decide) rfl (Nat.le_of_ble_eq_true rfl) fun K hB hF => ?_
  have fin : ∀ (plf : Nat → Int32) (wdf : Nat → Int64) (Y : ja_H), jNr Y q ipf wdf plf ed (nI hn) vlf → jfr (jNrS q) X Y → (∀ i, i < 20 → i < hn + 1 → wdf i = lN ((if hn < 20 then va_up wd hn w else wd) i) ∧ plf i = nI ((if hn < 20 then va_up pl hn k else pl) i)) → K 29 [.ref q, .int (nI k), .long (lN w), .retAddr 0] [] Y 0 0 := by
    intro plf wdf Y hy ey hwp
    refine kw_aload_n hB N_hand_29 rfl ?_
    refine kw_dup hB N_hand_30 rfl ?_
    refine kw_getf hB N_hand_31 f_N_35 hy.1 rfl ?_
    refine kw_iconst hB N_hand_34 (v := nI 1) (by decide) ?_
    refine kn_iadd hB N_hand_35 ?_
    refine kw_putf hB N_hand_36 f_N_35 jc_N jw_N_4 hy.1 (Nat.le_of_ble_eq_true rfl) rfl rfl ?_
    have h1 := hy.s_hn (hn' := nI (hn + 1))
    have e1 := ey.tr (jNrS_set0 Y q (.inr (8, [.ref (q + 1), .ref (q + 2), .ref (q + 3), .int ed, .int (nI (hn + 1)), .ref (q + 4)])))
    show K 39 _ _ (Y.set q (.inr (8, [.ref (q + 1), .ref (q + 2), .ref (q + 3), .int ed, .int (nI (hn + 1)), .ref (q + 4)]))) _ _
    generalize Y.set q (.inr (8, [.ref (q + 1), .ref (q + 2), .ref (q + 3), .int ed, .int (nI (hn + 1)), .ref (q + 4)])) = Z at h1 e1 ⊢
    refine kw_vret hF rfl N_hand_39 ?_ (by rw [e1.1]; rfl)
    exact ⟨rfl, ⟨ipf, plf, wdf, vlf, h1, hip, hwp, hvl⟩, e1⟩
  refine kw_aload_n hB N_hand_0 rfl ?_
  refine kw_getf hB N_hand_1 f_N_35 h0.1 rfl ?_
  refine kw_bipush hB N_hand_4 (v := nI 20) (by decide) ?_
  refine kn_icmp_ge hB N_hand_6 (by omega) (by decide) (fun hc => ?_) (fun hc => ?_)
  · refine fin plf wdf X h0 (jfr.rf _ _) (fun i hi hin => ?_)
    rw [if_neg (by omega), if_neg (by omega)]
    exact hwd i hi (by omega)
  · refine kw_aload_n hB N_hand_9 rfl ?_
    refine kw_getf hB N_hand_10 f_N_15 h0.1 rfl ?_
    refine kw_aload_n hB N_hand_13 rfl ?_
    refine kw_getf hB N_hand_14 f_N_35 h0.1 rfl ?_
    refine kw_lload_n hB N_hand_17 rfl ?_
    refine kn_last hB N_hand_18 h0.2.2.1 rfl (by omega) (by decide) ?_
    have h1 := h0.s_wd (wd' := vp_updL wdf hn (lN w))
    have e1 := jNrS_set X q 2 (.inl (1, 20, .inr (.inl (vp_updL wdf hn (lN w))))) (by decide)
    generalize X.set (q + 2) (.inl (1, 20, .inr (.inl (vp_updL wdf hn (lN w))))) = Y at h1 e1 ⊢
    refine kw_aload_n hB N_hand_19 rfl ?_
    refine kw_getf hB N_hand_20 f_N_19 h1.1 rfl ?_
    refine kw_aload_n hB N_hand_23 rfl ?_
    refine kw_getf hB N_hand_24 f_N_35 h1.1 rfl ?_
    refine kw_iload_n hB N_hand_27 rfl ?_
    refine kn_iast hB N_hand_28 h1.2.2.2.1 rfl (by omega) (by decide) ?_
    have h2 := h1.s_pl (pl' := upd plf hn (nI k))
    have e2 := e1.tr (jNrS_set Y q 3 (.inl (0, 20, .inl (upd plf hn (nI k)))) (by decide))
    refine fin _ _ _ h2 e2 (fun i hi hin => ?_)
    rw [if_pos hc, if_pos hc]
    by_cases hih : i = hn
    · subst hih; rw [pk_uLs, pk_us, jup_self, jup_self]; exact ⟨rfl, rfl⟩
    · rw [pk_uLn hih, pk_un hih, jup_ne hih, jup_ne hih]; exact hwd i hi (by omega)
set_option maxHeartbeats 4000000 in
set_option maxRecDepth 100000 in
theorem c_N_isKept {q hn : Nat} {x ed : Int32} {ip val wd pl : Nat → Nat} (h : jNv X q ip val wd pl hn ed) (hh : hn < 2 ^ 31) : AMet l D g 0 0 0 m_N_isKept [.ref q, .int x] X (fun r X' => (∃ b : Bool, r = some (.int (nI b.toNat)) ∧ (b = true ↔ ∃ j, x = nI j ∧ j < hn ∧ j < 20)) ∧ X' = X) := by
  obtain ⟨ipf, plf, wdf, vlf, h0, -⟩ := h
  refine ja_metK (by decide) rfl (Nat.le_of_ble_eq_true rfl) fun K hB hF => ?_
  have no : (¬ ∃ j, x = nI j ∧ j < hn ∧ j < 20) → K 22 [.ref q, .int x] [] X 0 0 := by
    intro hno
    refine kw_iconst hB N_isKept_22 (v := nI 0) (by decide) ?_
    refine kw_zret hF rfl (by first | rfl | decide) N_isKept_23 ?_ (by first | (simp [jLs_len]; done) | (simp [*]; done))
    exact ⟨⟨false, rfl, fun z => (by cases z), fun z => absurd z hno⟩, rfl⟩
  refine kw_iload_n hB N_isKept_0 rfl ?_
  refine kw_if_lt hB N_isKept_1 (fun hc => no ?_) (fun hc => ?_)
  · rintro ⟨j, rfl, hj, -⟩; exact nI_pos (by omega) hc
  · obtain ⟨j, hj, rfl⟩ := nI_of hc
    refine kw_iload_n hB N_isKept_4 rfl ?_
    refine kw_aload_n hB N_isKept_5 rfl ?_
    refine kw_getf hB N_isKept_6 f_N_35 h0.1 rfl ?_
    refine kn_icmp_ge hB N_isKept_9 (by omega) (by omega) (fun h1 => no ?_) (fun h1 => ?_)
    · rintro ⟨j', e, h2, h3⟩
      have := (nI_eq hj (by omega)).mp e
      omega
    · refine kw_iload_n hB N_isKept_12 rfl ?_
      refine kw_bipush hB N_isKept_13 (v := nI 20) (by decide) ?_
      refine kn_icmp_ge hB N_isKept_15 (by omega) (by decide) (fun h2 => no ?_) (fun h2 => ?_)
      · rintro ⟨j', e, h3, h4⟩
        have := (nI_eq hj (by omega)).mp e
        omega
      · refine kw_iconst hB N_isKept_18 (v := nI 1) (by decide) ?_
        refine kw_goto hB N_isKept_19 ?_
        refine kw_zret hF rfl (by first | rfl | decide) N_isKept_23 ?_ (by first | (simp [jLs_len]; done) | (simp [*]; done))
        exact ⟨⟨true, rfl, fun _ => ⟨j, rfl, h1, h2⟩, fun _ => rfl⟩, rfl⟩
set_option maxHeartbeats 8000000 in
set_option maxRecDepth 100000 in
theorem c_N_goThrough {q p n at' hn : Nat} {ed : Int32} {ip val wd pl K0 V A B M L : Nat → Nat} (h : jNv X q ip val wd pl hn ed) (hR : jRv X p n K0 V A B M L) (hat : at' < n) (hh : hn < 2 ^ 30) (hd : ∀ k ∈ jNrS q, k < p ∨ p + 8 < k) :
    AMet l D g 3 0 0 m_N_goThrough [.ref q, .ref p, .int (nI at')] X (fun r X' => jfr (jNrS q) X X' ∧ (∃ (o : Option Nat) (val' : Nat → Nat) (hn' : Nat) (wd' pl' : Nat → Nat), jN1 K0 V A B M ip at' (val, hn, wd, pl) = (o, val', hn', wd', pl') ∧ jNv X' q ip val' wd' pl' hn' ed ∧ hn' ≤ hn + 1 ∧ r = some (.int (match o with | none => -1 | some i => nI i)))) := by
  have hN := h
  obtain ⟨ipf, plf, wdf, vlf, h0, hip, hwd, hvl⟩ := h
  obtain ⟨kd, vr, fs, sc, mt, lv, pt, hdd, sk, op, r0, hn24, hl⟩ := hR
  obtain ⟨e1, e2, e3, e4, k10, v5, c0, c1, c2, c3, c4, c5, c6, c7⟩ := hl at' hat
  refine ja_metK (by decide) rfl (Nat.le_of_ble_eq_true rfl) fun K hB hF => ?_
  refine kw_aload_n hB N_goThrough_0 rfl ?_
  refine kw_getf hB N_goThrough_1 f_N_47 r0.1 rfl ?_
  refine kw_iload_n hB N_goThrough_4 rfl ?_
  refine kn_iald hB N_goThrough_5 r0.2.2.1 rfl (by omega) (by decide) ?_
  rw [e2]
  refine kw_istore_n hB N_goThrough_6 rfl (by decide) rfl ?_
  refine kw_aload_n hB N_goThrough_7 rfl ?_
  refine kw_getf hB N_goThrough_8 f_N_50 r0.1 rfl ?_
  refine kw_iload_n hB N_goThrough_11 rfl ?_
  refine kn_iald hB N_goThrough_12 r0.2.2.2.1 rfl (by omega) (by decide) ?_
  rw [e3]
  refine kw_istore hB N_goThrough_13 (by decide) rfl ?_
  refine kw_aload_n hB N_goThrough_15 rfl ?_
  refine kw_getf hB N_goThrough_16 f_N_53 r0.1 rfl ?_
  refine kw_iload_n hB N_goThrough_19 rfl ?_
  refine kn_iald hB N_goThrough_20 r0.2.2.2.2.1 rfl (by omega) (by decide) ?_
  rw [e4]
  refine kw_istore hB N_goThrough_21 (by decide) rfl ?_
  refine kw_aload_n hB N_goThrough_23 rfl ?_
  refine kw_getf hB N_goThrough_24 f_N_56 r0.1 rfl ?_
  refine kw_iload_n hB N_goThrough_27 rfl ?_
  refine kn_iald hB N_goThrough_28 r0.2.1 rfl (by omega) (by decide) ?_
  rw [e1]
  have hki : (nI (K0 at')).toInt = (K0 at' : Int) := nI_toInt (by omega)
  -- putting a word, and what follows
  have putw : ∀ (w pcx pcy : Nat) (hcall : ja_at m_N_goThrough.2.1 pcx pcy (.invokevirtual 65) 3) (hret : ja_at m_N_goThrough.2.1 pcy (pcy + 1) .ireturn 1), (w = jOV ∨ jwv w) → (w = jOV → jN1 K0 V A B M ip at' (val, hn, wd, pl) = (none, val, hn, wd, pl)) → (w ≠ jOV → jN1 K0 V A B M ip at' (val, hn, wd, pl) = (some (at' + 1), va_up val (V at') w, hn, wd, pl)) → K pcx [.ref q, .ref p, .int (nI at'), .int (nI (V at')), .int (nI (A at')), .int (nI (B at'))] [.long (lN w), .int (nI (V at')), .int (nI at'), .ref q] X 0 0 := by
    intro w pcx pcy hcall hret hw hov hok
    refine kw_callV hB hcall s_N_65 im_N_put se_N_put h0.1 rfl rfl (As := [.int (nI at'), .int (nI (V at')), .long (lN w)]) (c_N_put l D g hN v5 (by omega) hw) rfl (by decide) (Nat.le_of_ble_eq_true rfl) (by omega) (by omega) (fun r X1 hq hl => ?_)
    by_cases hz : w = jOV
    · obtain ⟨rfl, rfl⟩ := hq.1 hz
      refine kw_iret hF rfl hret ?_ (by omega)
      exact ⟨jfr.rf _ _, none, val, hn, wd, pl, hov hz, hN, by omega, rfl⟩
    · obtain ⟨rfl, hq1, hq2⟩ := hq.2 hz
      refine kw_iret hF rfl hret ?_ (by omega)
      exact ⟨hq2, some (at' + 1), _, hn, wd, pl, hok hz, hq1, by omega, rfl⟩
  have stay : ∀ (i : Nat) (pcx : Nat) (hret : ja_at m_N_goThrough.2.1 pcx (pcx + 1) .ireturn 1), jN1 K0 V A B M ip at' (val, hn, wd, pl) = (some i, val, hn, wd, pl) → K pcx [.ref q, .ref p, .int (nI at'), .int (nI (V at')), .int (nI (A at')), .int (nI (B at'))] [.int (nI i)] X 0 0 := by
    intro i pcx hret hs
    refine kw_iret hF rfl hret ?_ (by omega)
    exact ⟨jfr.rf _ _, some i, val, hn, wd, pl, hs, hN, by omega, rfl⟩
  rcases (by omega : K0 at' = 0 ∨ K0 at' = 1 ∨ K0 at' = 2 ∨ K0 at' = 3 ∨ K0 at' = 4 ∨ K0 at' = 5 ∨ K0 at' = 6 ∨ K0 at' = 7 ∨ K0 at' = 8 ∨ K0 at' = 9) with hk | hk | hk | hk | hk | hk | hk | hk | hk | hk
  · obtain ⟨a1, a2⟩ := c0 hk
    refine kw_tableIn hB N_goThrough_29 (off := 55) (tgt := 84) (by rw [hki, hk]; decide) (by rw [hki, hk]; decide) (by rw [hki, hk]; rfl) rfl ?_
    refine kw_aload_n hB N_goThrough_84 rfl ?_
    refine kw_iload_n hB N_goThrough_85 rfl ?_
    refine kw_iload_n hB N_goThrough_86 rfl ?_
    refine kw_iload hB N_goThrough_87 rfl ?_
    refine kw_iconst hB N_goThrough_89 (v := nI 0) (by decide) ?_
    refine kw_callS hB N_goThrough_90 s_N_59 st_W_ofConstant (As := [.int (nI (A at')), .int (nI false.toNat)]) (c_W_ofConstant l D g (t := false) a2 (fun i hi => jdg_dig a1 hi)) rfl (by decide) (Nat.le_of_ble_eq_true rfl) (by omega) (by omega) (fun r X1 hq hl => ?_)
    obtain ⟨rfl, hxeq⟩ := hq
    obtain rfl := hxeq.symm
    have hm := jmap_dg (f := fun c => jlet c false) (h := 8) (fun c x1 x2 => by simp only [jlet]; simp; omega) (by decide) _ a1
    have hv : jwv (jmap (fun c => jlet c false) (A at')) := ⟨hm.1, by
      have := jlen_lt (w := jmap (fun c => jlet c false) (A at')) (n := 6) (by rw [hm.2]; exact jlen_le (by rw [← jp16]; exact a2))
      have e : (16 : Nat) ^ 6 = 16777216 := by decide
      omega⟩
    exact putw _ 93 96 N_goThrough_93 N_goThrough_96 (Or.inr hv) (fun z => absurd (z ▸ hv.2) (by decide)) (fun _ => by simp only [jN1]; rw [if_pos hk])
  · have hA3 := c1 hk
    obtain ⟨i1, i2, i3⟩ := hip (A at') hA3
    refine kw_tableIn hB N_goThrough_29 (off := 68) (tgt := 97) (by rw [hki, hk]; decide) (by rw [hki, hk]; decide) (by rw [hki, hk]; rfl) rfl ?_
    refine kw_aload_n hB N_goThrough_97 rfl ?_
    refine kw_iload_n hB N_goThrough_98 rfl ?_
    refine kw_iload_n hB N_goThrough_99 rfl ?_
    refine kw_aload_n hB N_goThrough_100 rfl ?_
    refine kw_getf hB N_goThrough_101 f_N_9 h0.1 rfl ?_
    refine kw_iload hB N_goThrough_104 rfl ?_
    refine kn_iald hB N_goThrough_106 h0.2.1 rfl (by omega) (by decide) ?_
    rw [i1]
    refine kw_iconst hB N_goThrough_107 (v := nI 1) (by decide) ?_
    refine kw_callS hB N_goThrough_108 s_N_59 st_W_ofConstant (As := [.int (nI (ip (A at'))), .int (nI true.toNat)]) (c_W_ofConstant l D g (t := true) i3 (fun i hi => jdg_dig i2 hi)) rfl (by decide) (Nat.le_of_ble_eq_true rfl) (by omega) (by omega) (fun r X1 hq hl => ?_)
    obtain ⟨rfl, hxeq⟩ := hq
    obtain rfl := hxeq.symm
    have hm := jmap_dg (f := fun c => jlet c true) (h := 8) (fun c x1 x2 => by simp only [jlet]; simp; omega) (by decide) _ i2
    have hv : jwv (jmap (fun c => jlet c true) (ip (A at'))) := ⟨hm.1, by
      have := jlen_lt (w := jmap (fun c => jlet c true) (ip (A at'))) (n := 6) (by rw [hm.2]; exact jlen_le (by rw [← jp16]; exact i3))
      have e : (16 : Nat) ^ 6 = 16777216 := by decide
      omega⟩
    exact putw _ 111 114 N_goThrough_111 N_goThrough_114 (Or.inr hv) (fun z => absurd (z ▸ hv.2) (by decide)) (fun _ => by simp only [jN1]; rw [if_neg (by omega), if_pos hk])
  · obtain ⟨a5, b5⟩ := c2 hk
    obtain ⟨x1, x2⟩ := hvl _ a5
    obtain ⟨y1, y2⟩ := hvl _ b5
    refine kw_tableIn hB N_goThrough_29 (off := 86) (tgt := 115) (by rw [hki, hk]; decide) (by rw [hki, hk]; decide) (by rw [hki, hk]; rfl) rfl ?_
    refine kw_aload_n hB N_goThrough_115 rfl ?_
    refine kw_iload_n hB N_goThrough_116 rfl ?_
    refine kw_iload_n hB N_goThrough_117 rfl ?_
    refine kw_aload_n hB N_goThrough_118 rfl ?_
    refine kw_getf hB N_goThrough_119 f_N_26 h0.1 rfl ?_
    refine kw_iload hB N_goThrough_122 rfl ?_
    refine kn_lald hB N_goThrough_124 h0.2.2.2.2 rfl (by omega) (by decide) ?_
    rw [x1]
    refine kw_aload_n hB N_goThrough_125 rfl ?_
    refine kw_getf hB N_goThrough_126 f_N_26 h0.1 rfl ?_
    refine kw_iload hB N_goThrough_129 rfl ?_
    refine kn_lald hB N_goThrough_131 h0.2.2.2.2 rfl (by omega) (by decide) ?_
    rw [y1]
    refine kw_callS hB N_goThrough_132 s_N_69 st_W_joined (As := [.long (lN (val (A at'))), .long (lN (val (B at')))]) (c_W_joined l D g x2.2 y2.2) rfl (by decide) (Nat.le_of_ble_eq_true rfl) (by omega) (by omega) (fun r X1 hq hl => ?_)
    obtain ⟨rfl, hxeq⟩ := hq
    obtain rfl := hxeq.symm
    refine putw _ 135 138 N_goThrough_135 N_goThrough_138 (Classical.byCases (fun z => Or.inl z) (fun z => Or.inr (jcat_wv x2 y2 z))) (fun z => ?_) (fun z => ?_)
    · simp only [jN1]; rw [if_neg (by omega), if_neg (by omega), if_pos hk, if_pos z]
    · simp only [jN1]; rw [if_neg (by omega), if_neg (by omega), if_pos hk, if_neg z]
  · obtain ⟨a5, b3⟩ := c3 hk
    obtain ⟨x1, x2⟩ := hvl _ a5
    refine kw_tableIn hB N_goThrough_29 (off := 110) (tgt := 139) (by rw [hki, hk]; decide) (by rw [hki, hk]; decide) (by rw [hki, hk]; rfl) rfl ?_
    refine kw_aload_n hB N_goThrough_139 rfl ?_
    refine kw_iload_n hB N_goThrough_140 rfl ?_
    refine kw_iload_n hB N_goThrough_141 rfl ?_
    refine kw_aload_n hB N_goThrough_142 rfl ?_
    refine kw_getf hB N_goThrough_143 f_N_26 h0.1 rfl ?_
    refine kw_iload hB N_goThrough_146 rfl ?_
    refine kn_lald hB N_goThrough_148 h0.2.2.2.2 rfl (by omega) (by decide) ?_
    rw [x1]
    refine kw_iload hB N_goThrough_149 rfl ?_
    refine kw_callS hB N_goThrough_151 s_N_73 st_W_applied (As := [.long (lN (val (A at'))), .int (nI (B at'))]) (c_W_applied l D g x2.2 (by omega) (fun i hi => x2.dig hi)) rfl (by decide) (Nat.le_of_ble_eq_true rfl) (by omega) (by omega) (fun r X1 hq hl => ?_)
    obtain ⟨rfl, hxeq⟩ := hq
    obtain rfl := hxeq.symm
    refine putw _ 154 157 N_goThrough_154 N_goThrough_157 (Classical.byCases (fun z => Or.inl z) (fun z => Or.inr (japp_wv _ x2.1 z))) (fun z => ?_) (fun z => ?_)
    · simp only [jN1]; rw [if_neg (by omega), if_neg (by omega), if_neg (by omega), if_pos hk, if_pos z]
    · simp only [jN1]; rw [if_neg (by omega), if_neg (by omega), if_neg (by omega), if_pos hk, if_neg z]
  · obtain ⟨x1, x2⟩ := hvl _ v5
    refine kw_tableIn hB N_goThrough_29 (off := 129) (tgt := 158) (by rw [hki, hk]; decide) (by rw [hki, hk]; decide) (by rw [hki, hk]; rfl) rfl ?_
    refine kw_aload_n hB N_goThrough_158 rfl ?_
    refine kw_iload hB N_goThrough_159 rfl ?_
    refine kw_aload_n hB N_goThrough_161 rfl ?_
    refine kw_getf hB N_goThrough_162 f_N_26 h0.1 rfl ?_
    refine kw_iload_n hB N_goThrough_165 rfl ?_
    refine kn_lald hB N_goThrough_166 h0.2.2.2.2 rfl (by omega) (by decide) ?_
    rw [x1]
    refine kw_callV hB N_goThrough_167 s_N_77 im_N_hand se_N_hand h0.1 rfl rfl (As := [.int (nI (A at')), .long (lN (val (V at')))]) (c_N_hand l D g hN hh) rfl (by decide) (Nat.le_of_ble_eq_true rfl) (by omega) (by omega) (fun r X1 hq hl => ?_)
    obtain ⟨rfl, hq1, hq2⟩ := hq
    refine kw_iload_n hB N_goThrough_170 rfl ?_
    refine kw_iconst hB N_goThrough_171 (v := nI 1) (by decide) ?_
    refine kn_iadd hB N_goThrough_172 ?_
    refine kw_iret hF rfl N_goThrough_173 ?_ (by omega)
    refine ⟨hq2, some (at' + 1), val, hn + 1, _, _, ?_, hq1, by omega, rfl⟩
    simp only [jN1]; rw [if_neg (by omega), if_neg (by omega), if_neg (by omega), if_neg (by omega), if_pos hk]
  · obtain ⟨a3, b1, b4⟩ := c5 (by omega)
    obtain ⟨m1, m2⟩ := c6 (by omega)
    obtain ⟨x1, x2⟩ := hvl _ v5
    refine kw_tableIn hB N_goThrough_29 (off := 145) (tgt := 174) (by rw [hki, hk]; decide) (by rw [hki, hk]; decide) (by rw [hki, hk]; rfl) rfl ?_
    refine kw_aload_n hB N_goThrough_174 rfl ?_
    refine kw_getf hB N_goThrough_175 f_N_26 h0.1 rfl ?_
    refine kw_iload_n hB N_goThrough_178 rfl ?_
    refine kn_lald hB N_goThrough_179 h0.2.2.2.2 rfl (by omega) (by decide) ?_
    rw [x1]
    refine kw_iload hB N_goThrough_180 rfl ?_
    refine kw_iload hB N_goThrough_182 rfl ?_
    refine kw_callS hB N_goThrough_184 s_N_81 st_W_meets (As := [.long (lN (val (V at'))), .int (nI (A at')), .int (nI (B at'))]) (c_W_meets l D g x2.2 a3 b1 b4) rfl (by decide) (Nat.le_of_ble_eq_true rfl) (by omega) (by omega) (fun r X1 hq hl => ?_)
    obtain ⟨rfl, hxeq⟩ := hq
    obtain rfl := hxeq.symm
    have hs : ∀ i, i = (if jmeet (val (V at')) (A at') (B at') then at' + 1 else M at' + 1) → jN1 K0 V A B M ip at' (val, hn, wd, pl) = (some i, val, hn, wd, pl) := by
      intro i hi
      simp only [jN1]; rw [if_neg (by omega), if_neg (by omega), if_neg (by omega), if_neg (by omega), if_neg (by omega), if_pos (by omega), hi]
    refine kn_if_eq hB N_goThrough_187 (by cases jmeet (val (V at')) (A at') (B at') <;> decide) (fun hz => ?_) (fun hz => ?_)
    · refine kw_aload_n hB N_goThrough_196 rfl ?_
      refine kw_getf hB N_goThrough_197 f_N_85 r0.1 rfl ?_
      refine kw_iload_n hB N_goThrough_200 rfl ?_
      refine kn_iald hB N_goThrough_201 r0.2.2.2.2.2.1 rfl (by omega) (by decide) ?_
      rw [m1]
      refine kw_iconst hB N_goThrough_202 (v := nI 1) (by decide) ?_
      refine kn_iadd hB N_goThrough_203 ?_
      exact stay _ 204 N_goThrough_204 (hs _ (by rw [jb_f hz]; rfl))
    · refine kw_iload_n hB N_goThrough_190 rfl ?_
      refine kw_iconst hB N_goThrough_191 (v := nI 1) (by decide) ?_
      refine kn_iadd hB N_goThrough_192 ?_
      refine kw_goto hB N_goThrough_193 ?_
      exact stay _ 204 N_goThrough_204 (hs _ (by rw [jb_t hz]; rfl))
  · obtain ⟨m1, m2⟩ := c6 (by omega)
    refine kw_tableIn hB N_goThrough_29 (off := 176) (tgt := 205) (by rw [hki, hk]; decide) (by rw [hki, hk]; decide) (by rw [hki, hk]; rfl) rfl ?_
    refine kw_aload_n hB N_goThrough_205 rfl ?_
    refine kw_getf hB N_goThrough_206 f_N_85 r0.1 rfl ?_
    refine kw_iload_n hB N_goThrough_209 rfl ?_
    refine kn_iald hB N_goThrough_210 r0.2.2.2.2.2.1 rfl (by omega) (by decide) ?_
    rw [m1]
    refine kw_iconst hB N_goThrough_211 (v := nI 1) (by decide) ?_
    refine kn_iadd hB N_goThrough_212 ?_
    refine stay _ 213 N_goThrough_213 ?_
    simp only [jN1]; rw [if_neg (by omega), if_neg (by omega), if_neg (by omega), if_neg (by omega), if_neg (by omega), if_neg (by omega), if_pos hk]
  · obtain ⟨a3, b1, b4⟩ := c5 (by omega)
    obtain ⟨m1, m2⟩ := c6 (by omega)
    obtain ⟨x1, x2⟩ := hvl _ v5
    refine kw_tableIn hB N_goThrough_29 (off := 145) (tgt := 174) (by rw [hki, hk]; decide) (by rw [hki, hk]; decide) (by rw [hki, hk]; rfl) rfl ?_
    refine kw_aload_n hB N_goThrough_174 rfl ?_
    refine kw_getf hB N_goThrough_175 f_N_26 h0.1 rfl ?_
    refine kw_iload_n hB N_goThrough_178 rfl ?_
    refine kn_lald hB N_goThrough_179 h0.2.2.2.2 rfl (by omega) (by decide) ?_
    rw [x1]
    refine kw_iload hB N_goThrough_180 rfl ?_
    refine kw_iload hB N_goThrough_182 rfl ?_
    refine kw_callS hB N_goThrough_184 s_N_81 st_W_meets (As := [.long (lN (val (V at'))), .int (nI (A at')), .int (nI (B at'))]) (c_W_meets l D g x2.2 a3 b1 b4) rfl (by decide) (Nat.le_of_ble_eq_true rfl) (by omega) (by omega) (fun r X1 hq hl => ?_)
    obtain ⟨rfl, hxeq⟩ := hq
    obtain rfl := hxeq.symm
    have hs : ∀ i, i = (if jmeet (val (V at')) (A at') (B at') then at' + 1 else M at' + 1) → jN1 K0 V A B M ip at' (val, hn, wd, pl) = (some i, val, hn, wd, pl) := by
      intro i hi
      simp only [jN1]; rw [if_neg (by omega), if_neg (by omega), if_neg (by omega), if_neg (by omega), if_neg (by omega), if_pos (by omega), hi]
    refine kn_if_eq hB N_goThrough_187 (by cases jmeet (val (V at')) (A at') (B at') <;> decide) (fun hz => ?_) (fun hz => ?_)
    · refine kw_aload_n hB N_goThrough_196 rfl ?_
      refine kw_getf hB N_goThrough_197 f_N_85 r0.1 rfl ?_
      refine kw_iload_n hB N_goThrough_200 rfl ?_
      refine kn_iald hB N_goThrough_201 r0.2.2.2.2.2.1 rfl (by omega) (by decide) ?_
      rw [m1]
      refine kw_iconst hB N_goThrough_202 (v := nI 1) (by decide) ?_
      refine kn_iadd hB N_goThrough_203 ?_
      exact stay _ 204 N_goThrough_204 (hs _ (by rw [jb_f hz]; rfl))
    · refine kw_iload_n hB N_goThrough_190 rfl ?_
      refine kw_iconst hB N_goThrough_191 (v := nI 1) (by decide) ?_
      refine kn_iadd hB N_goThrough_192 ?_
      refine kw_goto hB N_goThrough_193 ?_
      exact stay _ 204 N_goThrough_204 (hs _ (by rw [jb_t hz]; rfl))
  · refine kw_tableIn hB N_goThrough_29 (off := 192) (tgt := 221) (by rw [hki, hk]; decide) (by rw [hki, hk]; decide) (by rw [hki, hk]; rfl) rfl ?_
    refine kw_iload_n hB N_goThrough_221 rfl ?_
    refine kw_iconst hB N_goThrough_222 (v := nI 1) (by decide) ?_
    refine kn_iadd hB N_goThrough_223 ?_
    refine stay _ 224 N_goThrough_224 ?_
    simp only [jN1]; rw [if_neg (by omega), if_neg (by omega), if_neg (by omega), if_neg (by omega), if_neg (by omega), if_neg (by omega), if_neg (by omega), if_neg (by omega)]
  · obtain ⟨m1, m2⟩ := c6 (by omega)
    refine kw_tableIn hB N_goThrough_29 (off := 185) (tgt := 214) (by rw [hki, hk]; decide) (by rw [hki, hk]; decide) (by rw [hki, hk]; rfl) rfl ?_
    refine kw_aload_n hB N_goThrough_214 rfl ?_
    refine kw_getf hB N_goThrough_215 f_N_85 r0.1 rfl ?_
    refine kw_iload_n hB N_goThrough_218 rfl ?_
    refine kn_iald hB N_goThrough_219 r0.2.2.2.2.2.1 rfl (by omega) (by decide) ?_
    rw [m1]
    refine stay _ 220 N_goThrough_220 ?_
    simp only [jN1]; rw [if_neg (by omega), if_neg (by omega), if_neg (by omega), if_neg (by omega), if_neg (by omega), if_neg (by omega), if_neg (by omega), if_pos hk]
/-- k lines at the most, from at' on -/
def jNk (K V A B M ip : Nat → Nat) (n : Nat) : Nat → Option Nat → (Nat → Nat) × Nat × (Nat → Nat) × (Nat → Nat) → Option Nat × (Nat → Nat) × Nat × (Nat → Nat) × (Nat → Nat)
  | 0, o, s => (o, s)
  | _ + 1, none, s => (none, s)
  | k + 1, some i, s => if i < n then jNk K V A B M ip n k (jN1 K V A B M ip i s).1 (jN1 K V A B M ip i s).2 else (some i, s)
/-- how a run ends -/
def jNe (n : Nat) (o : Option Nat) : Nat := match o with
  | none => 2
  | some i => if i < n then 1 else 0
theorem jN1_le {K V A B M ip : Nat → Nat} {n at' : Nat} {s : (Nat → Nat) × Nat × (Nat → Nat) × (Nat → Nat)} (hat : at' < n) (hM : 5 ≤ K at' → M at' < n) {i : Nat} (h : (jN1 K V A B M ip at' s).1 = some i) : i ≤ n := by
  simp only [jN1] at h
  split at h
  · simp at h; omega
  · split at h
    · simp at h; omega
    · split at h
      · split at h <;> simp at h; omega
      · split at h
        · split at h <;> simp at h; omega
        · split at h
          · simp at h; omega
          · split at h
            · simp at h
              have := hM (by omega)
              split at h <;> omega
            · split at h
              · simp at h; have := hM (by omega); omega
              · split at h
                · simp at h; have := hM (by omega); omega
                · simp at h; omega
set_option maxHeartbeats 8000000 in
set_option maxRecDepth 100000 in
theorem c_N_start {q p n steps hn0 : Nat} {ed : Int32} {ip val0 wd0 pl0 K0 V A B M L : Nat → Nat} (h : jNv X q ip val0 wd0 pl0 hn0 ed) (hR : jRv X p n K0 V A B M L) (hst : steps ≤ 1000) (hd : ∀ k ∈ jNrS q, k < p ∨ p + 8 < k) :
    AMet l D g 4 0 0 m_N_start [.ref q, .ref p, .int (nI steps)] X (fun r X' => jfr (jNrS q) X X' ∧ ∃ (o : Option Nat) (val : Nat → Nat) (hn : Nat) (wd pl : Nat → Nat), jNk K0 V A B M ip n steps (some 0) (fun _ => 0, 0, wd0, pl0) = (o, val, hn, wd, pl) ∧ r = some (.int (nI hn)) ∧ jNv X' q ip val wd pl hn (nI (jNe n o)) ∧ hn ≤ 1000) := by
  have hn24 : n ≤ 24 := by obtain ⟨_, _, _, _, _, _, _, _, _, _, _, b, _⟩ := hR; exact b
  have hMn : ∀ i, i < n → 5 ≤ K0 i → M i < n := by
    obtain ⟨_, _, _, _, _, _, _, _, _, _, _, _, c⟩ := hR
    exact fun i hi h5 => ((c i hi).2.2.2.2.2.2.2.2.2.2.2.2.1 h5).2
  refine ja_metK (by decide) rfl (Nat.le_of_ble_eq_true rfl) fun K hB hF => ?_
  have fin : ∀ (used : Nat) (o : Option Nat) (val : Nat → Nat) (hn : Nat) (wd pl : Nat → Nat) (Y : ja_H), (∀ i, o = some i → i ≤ n) → jNv Y q ip val wd pl hn ed → jfr (jNrS q) X Y → hn ≤ 1000 → jNk K0 V A B M ip n steps (some 0) (fun _ => 0, 0, wd0, pl0) = (o, val, hn, wd, pl) → K 50 [.ref q, .ref p, .int (nI steps), .int (match o with | none => -1 | some i => nI i), .int (nI used)] [] Y 0 0 := by
    intro used o val hn wd pl Y hol hy ey hle hk
    obtain ⟨ipf, plf, wdf, vlf, y0, yip, ywd, yvl⟩ := hy
    have rY := hR.fr ey hd
    obtain ⟨kd, vr, fs, sc, mt, lv, pt, hdd, sk, op, r0, -, -⟩ := rY
    have put : ∀ e : Nat, e = jNe n o → K 73 [.ref q, .ref p, .int (nI steps), .int (match o with | none => -1 | some i => nI i), .int (nI used)] [.int (nI e), .ref q] Y 0 0 := by
      intro e he
      refine kw_putf hB N_start_73 f_N_22 jc_N jw_N_3 y0.1 (Nat.le_of_ble_eq_true rfl) rfl rfl ?_
      have h1 := y0.s_ed (ed' := nI e)
      have e1 := ey.tr (jNrS_set0 Y q (.inr (8, [.ref (q + 1), .ref (q + 2), .ref (q + 3), .int (nI e), .int (nI hn), .ref (q + 4)])))
      show K 76 _ _ (Y.set q (.inr (8, [.ref (q + 1), .ref (q + 2), .ref (q + 3), .int (nI e), .int (nI hn), .ref (q + 4)]))) _ _
      generalize Y.set q (.inr (8, [.ref (q + 1), .ref (q + 2), .ref (q + 3), .int (nI e), .int (nI hn), .ref (q + 4)])) = Z at h1 e1 ⊢
      refine kw_aload_n hB N_start_76 rfl ?_
      refine kw_getf hB N_start_77 f_N_35 h1.1 rfl ?_
      refine kw_iret hF rfl N_start_80 ?_ (by rw [e1.1]; rfl)
      exact ⟨e1, o, val, hn, wd, pl, hk, rfl, ⟨ipf, plf, wdf, vlf, by rw [← he]; exact h1, yip, ywd, yvl⟩, hle⟩
    refine kw_aload_n hB N_start_50 rfl ?_
    refine kw_iload_n hB N_start_51 rfl ?_
    refine kw_iconst hB N_start_52 (v := -1) (by decide) ?_
    cases o with
    | none =>
      refine kw_icmp_ne hB N_start_53 (fun hc => absurd rfl hc) (fun _ => ?_)
      refine kw_iconst hB N_start_56 (v := nI 2) (by decide) ?_
      refine kw_goto hB N_start_57 ?_
      exact put 2 rfl
    | some i =>
      have hin := hol i rfl
      refine kw_icmp_ne hB N_start_53 (fun _ => ?_) (fun hc => absurd hc (jb_ne1 (by omega)))
      refine kw_iload_n hB N_start_60 rfl ?_
      refine kw_aload_n hB N_start_61 rfl ?_
      refine kw_getf hB N_start_62 f_N_38 r0.1 rfl ?_
      refine kn_icmp_ge hB N_start_65 (by omega) (by omega) (fun hc => ?_) (fun hc => ?_)
      · refine kw_iconst hB N_start_72 (v := nI 0) (by decide) ?_
        exact put 0 (by simp only [jNe]; rw [if_neg (by omega)])
      · refine kw_iconst hB N_start_68 (v := nI 1) (by decide) ?_
        refine kw_goto hB N_start_69 ?_
        exact put 1 (by simp only [jNe]; rw [if_pos hc])
  have loop : ∀ k used (o : Option Nat) (val : Nat → Nat) (hn : Nat) (wd pl : Nat → Nat) (Y : ja_H), used + k = steps → (∀ i, o = some i → i ≤ n) → jNv Y q ip val wd pl hn ed → jfr (jNrS q) X Y → hn ≤ used → jNk K0 V A B M ip n steps (some 0) (fun _ => 0, 0, wd0, pl0) = jNk K0 V A B M ip n k o (val, hn, wd, pl) → K 18 [.ref q, .ref p, .int (nI steps), .int (match o with | none => -1 | some i => nI i), .int (nI used)] [] Y 0 0 := by
    intro k
    induction k with
    | zero =>
      intro used o val hn wd pl Y hu hol hy ey hle hk
      refine kw_iload hB N_start_18 rfl ?_
      refine kw_iload_n hB N_start_20 rfl ?_
      refine kn_icmp_ge hB N_start_21 (by omega) (by omega) (fun hc => ?_) (fun hc => absurd hc (by omega))
      exact fin used o val hn wd pl Y hol hy ey (by omega) (by rw [hk, jNk])
    | succ k ih =>
      intro used o val hn wd pl Y hu hol hy ey hle hk
      have rY := hR.fr ey hd
      have rY0 := rY
      obtain ⟨kd, vr, fs, sc, mt, lv, pt, hdd, sk, op, r0, -, -⟩ := rY0
      refine kw_iload hB N_start_18 rfl ?_
      refine kw_iload_n hB N_start_20 rfl ?_
      refine kn_icmp_ge hB N_start_21 (by omega) (by omega) (fun hc => absurd hc (by omega)) (fun _ => ?_)
      refine kw_iload_n hB N_start_24 rfl ?_
      refine kw_iconst hB N_start_25 (v := -1) (by decide) ?_
      cases o with
      | none =>
        refine kw_icmp_eq hB N_start_26 (fun _ => ?_) (fun hc => absurd rfl hc)
        exact fin used none val hn wd pl Y hol hy ey (by omega) (by rw [hk, jNk])
      | some i =>
        have hin := hol i rfl
        refine kw_icmp_eq hB N_start_26 (fun hc => absurd hc (jb_ne1 (by omega))) (fun _ => ?_)
        refine kw_iload_n hB N_start_29 rfl ?_
        refine kw_aload_n hB N_start_30 rfl ?_
        refine kw_getf hB N_start_31 f_N_38 r0.1 rfl ?_
        refine kn_icmp_ge hB N_start_34 (by omega) (by omega) (fun hc => ?_) (fun hc => ?_)
        · exact fin used (some i) val hn wd pl Y hol hy ey (by omega) (by rw [hk, jNk, if_neg (by omega)])
        · obtain ⟨ipf, plf, wdf, vlf, y0, -⟩ := id hy
          refine kw_aload_n hB N_start_37 rfl ?_
          refine kw_aload_n hB N_start_38 rfl ?_
          refine kw_iload_n hB N_start_39 rfl ?_
          refine kw_callV hB N_start_40 s_N_43 im_N_goThrough se_N_goThrough y0.1 rfl rfl (As := [.ref p, .int (nI i)]) (c_N_goThrough l D g hy rY hc (by omega) hd) rfl (by decide) (Nat.le_of_ble_eq_true rfl) (by omega) (by omega) (fun r X1 hq hl => ?_)
          obtain ⟨hf1, o', val', hn', wd', pl', hj, hy', hle', rfl⟩ := hq
          refine kw_istore_n hB N_start_43 rfl (by decide) rfl ?_
          refine kn_iinc hB N_start_44 rfl (by decide) rfl ?_
          refine kw_goto hB N_start_47 ?_
          refine ih (used + 1) o' val' hn' wd' pl' X1 (by omega) (fun j hj' => ?_) hy' (ey.tr hf1) (by omega) ?_
          · subst hj'
            exact jN1_le hc (hMn i hc) (s := (val, hn, wd, pl)) (by rw [hj])
          · rw [hk, jNk, if_pos hc, hj]
  have hN := h
  obtain ⟨ipf, plf, wdf, vlf, h0, hip, hwd, hvl⟩ := h
  refine kw_aload_n hB N_start_0 rfl ?_
  refine kw_getf hB N_start_1 f_N_26 h0.1 rfl ?_
  refine kw_lconst hB N_start_4 (v := lN 0) (by decide) ?_
  refine kw_callS hB N_start_5 s_N_29 st_J_fillL (As := [.ref (q + 4), .long (lN 0)]) (c_J_fillL l D g h0.2.2.2.2 (by decide)) rfl (by decide) (Nat.le_of_ble_eq_true rfl) (by omega) (by omega) (fun r X1 hq hl => ?_)
  obtain ⟨rfl, rfl⟩ := hq
  have h1 := h0.s_vl (vl' := jfl vlf 0 5 (lN 0))
  have e1 := jNrS_set X q 4 (.inl (1, 5, .inr (.inl (jfl vlf 0 5 (lN 0))))) (by decide)
  generalize X.set (q + 4) (.inl (1, 5, .inr (.inl (jfl vlf 0 5 (lN 0))))) = Y1 at h1 e1 ⊢
  refine kw_aload_n hB N_start_8 rfl ?_
  refine kw_iconst hB N_start_9 (v := nI 0) (by decide) ?_
  refine kw_putf hB N_start_10 f_N_35 jc_N jw_N_4 h1.1 (Nat.le_of_ble_eq_true rfl) rfl rfl ?_
  have h2 := h1.s_hn (hn' := nI 0)
  have e2 := e1.tr (jNrS_set0 Y1 q (.inr (8, [.ref (q + 1), .ref (q + 2), .ref (q + 3), .int ed, .int (nI 0), .ref (q + 4)])))
  show K 13 _ _ (Y1.set q (.inr (8, [.ref (q + 1), .ref (q + 2), .ref (q + 3), .int ed, .int (nI 0), .ref (q + 4)]))) _ _
  generalize Y1.set q (.inr (8, [.ref (q + 1), .ref (q + 2), .ref (q + 3), .int ed, .int (nI 0), .ref (q + 4)])) = Y2 at h2 e2 ⊢
  refine kw_iconst hB N_start_13 (v := nI 0) (by decide) ?_
  refine kw_istore_n hB N_start_14 rfl (by decide) rfl ?_
  refine kw_iconst hB N_start_15 (v := nI 0) (by decide) ?_
  refine kw_istore hB N_start_16 (by decide) rfl ?_
  refine loop steps 0 (some 0) (fun _ => 0) 0 wd0 pl0 Y2 (by omega) (fun i hi => by cases hi; omega) ⟨ipf, plf, wdf, _, h2, hip, fun i _ hi => absurd hi (by omega), fun v hv => ⟨?_, jdg_0 8, Nat.two_pow_pos 60⟩⟩ e2 (by omega) rfl
  simp only [jfl]
  rw [if_pos (by omega)]
end JN
