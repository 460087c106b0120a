-- TaintScanner: analyse, size, accepts, witness, rounds, give, run, ended, passed, place, attack
section JT3
variable (l : Launch) (D : va_G) (g : Nat × Nat) {X : ja_H} {n s : Nat} {K V A B M L : Nat → Nat} {σ : Nat → List (Nat × Nat)} {md : Bool} {ip wd pl : Nat → Nat} {hn : Nat} {ed : Int32}
set_option maxHeartbeats 8000000 in
set_option maxRecDepth 100000 in
theorem c_T_analyse (h : jCl X n s K V A B M L σ md ip wd pl hn ed) : AMet l D g 7 0 0 m_T_analyse [.ref 1] X (fun r X' => ((σ n).length ≠ 0 → r = some (.int (-1)) ∧ X' = X) ∧ ((σ n).length = 0 → r = some (.int (nI (jUn (fun k => jWt (jSn (jFin n K V A B M L) k)) s))) ∧ jCl X' n s K V A B M L σ true ip wd pl hn ed ∧ jfr jCS X X')) := by
  have h0 := h
  obtain ⟨a1, a2, a3, ⟨un, rd, a4, a4'⟩, ⟨sk, a5, a5'⟩, a6, ⟨c, wt, a7, a7'⟩, ⟨val, a8⟩, a9⟩ := h
  have a3' := a3
  obtain ⟨kd, vr, fs, sc, mt, lv, pt, hd, r, rl, rs⟩ := a3
  have hl3 := a2.2.2.1.len (Nat.le_refl n)
  refine ja_metK (by decide) rfl (Nat.le_of_ble_eq_true rfl) fun K9 hB hF => ?_
  refine kw_aload_n hB T_analyse_0 rfl ?_
  refine kw_getf hB T_analyse_1 f_T_10 a1 rfl ?_
  refine kw_getf hB T_analyse_4 f_T_57 r.1 rfl ?_
  refine kw_if_le hB T_analyse_7 (fun hc => ?_) (fun hc => ?_)
  · have hz : (σ n).length = 0 := by have := (nI_leI (b := 0) (by omega) (by decide)).mp hc; omega
    have hσ : σ n = [] := List.eq_nil_of_length_eq_zero hz
    refine kw_aload_n hB T_analyse_12 rfl ?_
    refine kw_getf hB T_analyse_13 f_T_19 a1 rfl ?_
    refine kw_getf hB T_analyse_16 f_T_69 a4.1 rfl ?_
    refine kn_if_ne hB T_analyse_19 (by cases md <;> decide) (fun hm => ?_) (fun hm => ?_)
    · have hm := jb_t hm
      obtain ⟨b1, b2, b3⟩ := a4' hm
      subst hm
      refine kw_aload_n hB T_analyse_33 rfl ?_
      refine kw_getf hB T_analyse_34 f_T_19 a1 rfl ?_
      refine kw_getf hB T_analyse_37 f_T_77 a4.1 rfl ?_
      refine kw_iret hF rfl T_analyse_40 ⟨fun z => absurd hz z, fun _ => ⟨by rw [b2], h0, jfr.rf _ _⟩⟩ (by simp)
    · have hm := jb_f hm
      subst hm
      refine kw_aload_n hB T_analyse_22 rfl ?_
      refine kw_getf hB T_analyse_23 f_T_19 a1 rfl ?_
      refine kw_aload_n hB T_analyse_26 rfl ?_
      refine kw_getf hB T_analyse_27 f_T_10 a1 rfl ?_
      refine kw_callV hB T_analyse_30 s_T_73 im_A_make se_A_make a4.1 rfl rfl (As := [.ref 2]) (c_A_make l D g (wt0 := wt) a4 a5 a6 a7.zero (a3'.rv a2 hσ) r a2.2.2.1 hσ a2.2.1 a2.2.2.2.2.1) rfl (by decide) (Nat.le_of_ble_eq_true rfl) (by omega) (by omega) (fun r X1 hq hl => ?_)
      obtain ⟨rfl, ⟨rd', e1, e2⟩, e3, e4, e5⟩ := hq
      have hle := e5.1
      have no : ∀ k, k < 11 ∨ k = 25 ∨ k = 26 ∨ 140 ≤ k → k ∉ jMs := fun k hk z => by rw [jMs_mem] at z; omega
      have b1 := e5.at (no 1 (by decide)) a1
      refine kw_aload_n hB T_analyse_33 rfl ?_
      refine kw_getf hB T_analyse_34 f_T_19 b1 rfl ?_
      refine kw_getf hB T_analyse_37 f_T_77 e1.1 rfl ?_
      refine kw_iret hF rfl T_analyse_40 ⟨fun z => absurd hz z, fun _ => ⟨rfl, ⟨b1, a2, a3'.fr e5 (fun k hk => by rw [jMs_mem] at hk; omega), ⟨_, rd', e1, fun _ => ⟨hσ, rfl, e2⟩⟩, ⟨_, e3, fun _ => rfl⟩, a6.fr e5 (no _ (by decide)) (no _ (by decide)), ⟨_, _, e4, fun _ => ⟨rfl, rfl⟩⟩, ⟨val, a8.fr e5 (fun k hk => by rw [jMs_mem] at hk; omega)⟩, a9⟩, e5.mono (fun k hk => by rw [jMs_mem] at hk; rw [jCS_mem]; omega)⟩⟩ (by omega)
  · have hz : (σ n).length ≠ 0 := fun z => hc (by rw [z]; decide)
    refine kw_iconst hB T_analyse_10 (v := -1) (by decide) ?_
    refine kw_iret hF rfl T_analyse_11 ?_ (by first | (simp [jLs_len]; done) | (simp [*]; done))
    exact ⟨fun _ => ⟨rfl, rfl⟩, fun z => absurd z hz⟩
set_option maxHeartbeats 4000000 in
set_option maxRecDepth 100000 in
theorem c_T_hasSink {x : Int32} (h : jCl X n s K V A B M L σ md ip wd pl hn ed) : AMet l D g 0 0 0 m_T_hasSink [.ref 1, .int x] X (fun r X' => r = some (.int (nI (md && jin s x).toNat)) ∧ X' = X) := by
  obtain ⟨a1, a2, ⟨kd, vr, fs, sc, mt, lv, pt, hd, r, rl, rs⟩, ⟨un, rd, a4, a4'⟩, -⟩ := h
  have hs6 := a2.2.1
  refine ja_metK (by decide) rfl (Nat.le_of_ble_eq_true rfl) fun K9 hB hF => ?_
  have no : (md && jin s x) = false → K9 29 [.ref 1, .int x] [] X 0 0 := by
    intro hno
    refine kw_iconst hB T_hasSink_29 (v := nI 0) (by decide) ?_
    refine kw_zret hF rfl (by first | rfl | decide) T_hasSink_30 ?_ (by first | (simp [jLs_len]; done) | (simp [*]; done))
    exact ⟨by rw [hno]; rfl, rfl⟩
  refine kw_aload_n hB T_hasSink_0 rfl ?_
  refine kw_getf hB T_hasSink_1 f_T_19 a1 rfl ?_
  refine kw_getf hB T_hasSink_4 f_T_69 a4.1 rfl ?_
  refine kn_if_eq hB T_hasSink_7 (by cases md <;> decide) (fun hm => no (by rw [jb_f hm]; rfl)) (fun hm => ?_)
  refine kw_iload_n hB T_hasSink_10 rfl ?_
  refine kw_if_lt hB T_hasSink_11 (fun hc => no (by rw [jin_neg hc, Bool.and_false])) (fun hc => ?_)
  obtain ⟨j, hj, rfl⟩ := nI_of hc
  refine kw_iload_n hB T_hasSink_14 rfl ?_
  refine kw_aload_n hB T_hasSink_15 rfl ?_
  refine kw_getf hB T_hasSink_16 f_T_10 a1 rfl ?_
  refine kw_getf hB T_hasSink_19 f_T_46 r.1 rfl ?_
  refine kn_icmp_ge hB T_hasSink_22 (by omega) (by omega) (fun h1 => no ?_) (fun h1 => ?_)
  · rw [jin_nI hj, decide_eq_false (by omega), Bool.and_false]
  · refine kw_iconst hB T_hasSink_25 (v := nI 1) (by decide) ?_
    refine kw_goto hB T_hasSink_26 ?_
    refine kw_zret hF rfl (by first | rfl | decide) T_hasSink_30 ?_ (by first | (simp [jLs_len]; done) | (simp [*]; done))
    exact ⟨by rw [jin_nI hj, decide_eq_true h1, jb_t hm]; rfl, rfl⟩
theorem jCl.sink (h : jCl X n s K V A B M L σ md ip wd pl hn ed) (hm : md = true) {k : Nat} (hk : k < s) : (∃ f : Nat → Option Nat, X[12]? = some (.inl (4, 6, .inr (.inr (.inr (.inr f))))) ∧ f k = some (58 + 2 * k)) ∧ jVal X (58 + 2 * k) (jSn (jFin n K V A B M L) k) ∧ k < 6 := by
  obtain ⟨a1, a2, a3, ⟨un, rd, a4, a4'⟩, ⟨sk, ⟨⟨f, a5, a5''⟩, b5⟩, a5'⟩, -⟩ := h
  have h6 := a2.2.1
  obtain ⟨hσ, -, -⟩ := a4' hm
  have hln := a2.2.2.2.2.2
  obtain ⟨hFI, -⟩ := jFin_n a2.2.2.1 hσ (fun i hi => (hln i hi).1) (fun i hi => (hln i hi).2.1) (A := A) (B := B) a2.1
  obtain ⟨j, j1, j2, j3⟩ := a2.2.2.2.2.1 k hk
  have h9 := hFI.2.2.2.2.2.2.2.2 j j1 j2
  rw [j3] at h9
  refine ⟨⟨f, a5, a5'' k (by omega)⟩, (b5 k (by omega)).2 _ ?_, by omega⟩
  rw [a5' hm]
  unfold jSn
  cases hb : (jFin n K V A B M L).2.2.2.2.2 k with
  | none => rw [hb] at h9; cases h9
  | some L' => rfl
set_option maxHeartbeats 4000000 in
set_option maxRecDepth 100000 in
theorem c_T_size {x : Int32} (h : jCl X n s K V A B M L σ md ip wd pl hn ed) : AMet l D g 1 0 0 m_T_size [.ref 1, .int x] X (fun r X' => r = some (.int (if md && jin s x then nI (jSn (jFin n K V A B M L) (jv x)).1 else -1)) ∧ X' = X) := by
  have h0 := h
  obtain ⟨a1, a2, a3, ⟨un, rd, a4, a4'⟩, -⟩ := h
  have hs6 := a2.2.1
  refine ja_metK (by decide) rfl (Nat.le_of_ble_eq_true rfl) fun K9 hB hF => ?_
  refine kw_aload_n hB T_size_0 rfl ?_
  refine kw_iload_n hB T_size_1 rfl ?_
  refine kw_callV hB T_size_2 s_T_80 im_T_hasSink se_T_hasSink a1 rfl rfl (As := [.int x]) (c_T_hasSink l D g h0) rfl (by decide) (Nat.le_of_ble_eq_true rfl) (by omega) (by omega) (fun r X1 hq hl => ?_)
  obtain ⟨rfl, hxeq⟩ := hq
  obtain rfl := hxeq.symm
  refine kn_if_eq hB T_size_5 (by cases (md && jin s x) <;> decide) (fun hz => ?_) (fun hz => ?_)
  · refine kw_iconst hB T_size_23 (v := -1) (by decide) ?_
    refine kw_iret hF rfl T_size_24 ?_ (by first | (simp [jLs_len]; done) | (simp [*]; done))
    exact ⟨by rw [jb_f hz]; rfl, rfl⟩
  · have hz := jb_t hz
    rw [hz] at hF
    obtain ⟨hm, hx⟩ := Bool.and_eq_true_iff.mp hz
    obtain ⟨e1, e2⟩ := jin_v hx (by omega)
    obtain ⟨⟨f, f1, f2⟩, hv, hk6⟩ := h0.sink hm e2
    refine kw_aload_n hB T_size_8 rfl ?_
    refine kw_getf hB T_size_9 f_T_19 a1 rfl ?_
    refine kw_getf hB T_size_12 f_T_83 a4.1 rfl ?_
    refine kw_iload_n hB T_size_15 (v := nI (jv x)) (by rw [← e1]; rfl) ?_
    refine kn_aald hB T_size_16 f1 rfl rfl hk6 (by decide) f2 ?_
    refine kw_getf hB T_size_17 f_T_86 hv.1.choose_spec.1.1 rfl ?_
    refine kw_goto hB T_size_20 ?_
    refine kw_iret hF rfl T_size_24 ⟨rfl, rfl⟩ (by simp)
/-- whether a language has a word, given as a number -/
def jAcw (L : jLan) (w : Nat) : Bool := L.2.1.testBit (jrun (jXf L) w (jlen w))
set_option maxHeartbeats 4000000 in
set_option maxRecDepth 100000 in
theorem c_T_accepts {x : Int32} {w : Nat} (h : jCl X n s K V A B M L σ md ip wd pl hn ed) (hw : w < 2 ^ 64) : AMet l D g 2 0 0 m_T_accepts [.ref 1, .int x, .long (lN w)] X (fun r X' => r = some (.int (if md && jin s x && jokw 15 8 w then nI (jAcw (jSn (jFin n K V A B M L) (jv x)) w).toNat else -1)) ∧ X' = X) := by
  have h0 := h
  obtain ⟨a1, a2, a3, ⟨un, rd, a4, a4'⟩, -⟩ := h
  have hs6 := a2.2.1
  refine ja_metK (by decide) rfl (Nat.le_of_ble_eq_true rfl) fun K9 hB hF => ?_
  have no : (md && jin s x && jokw 15 8 w) = false → K9 15 [.ref 1, .int x, .long (lN w), .retAddr 0] [] X 0 0 := by
    intro hno
    refine kw_iconst hB T_accepts_15 (v := -1) (by decide) ?_
    refine kw_iret hF rfl T_accepts_16 ?_ (by first | (simp [jLs_len]; done) | (simp [*]; done))
    exact ⟨by rw [hno]; rfl, rfl⟩
  refine kw_aload_n hB T_accepts_0 rfl ?_
  refine kw_iload_n hB T_accepts_1 rfl ?_
  refine kw_callV hB T_accepts_2 s_T_80 im_T_hasSink se_T_hasSink a1 rfl rfl (As := [.int x]) (c_T_hasSink l D g h0) rfl (by decide) (Nat.le_of_ble_eq_true rfl) (by omega) (by omega) (fun r X1 hq hl => ?_)
  obtain ⟨rfl, hxeq⟩ := hq
  obtain rfl := hxeq.symm
  refine kn_if_eq hB T_accepts_5 (by cases (md && jin s x) <;> decide) (fun hz => no (by rw [jb_f hz]; rfl)) (fun hz => ?_)
  have hz := jb_t hz
  obtain ⟨hm, hx⟩ := Bool.and_eq_true_iff.mp hz
  obtain ⟨e1, e2⟩ := jin_v hx (by omega)
  obtain ⟨⟨f, f1, f2⟩, hv, hk6⟩ := h0.sink hm e2
  refine kw_lload_n hB T_accepts_8 rfl ?_
  refine kw_callS hB T_accepts_9 s_T_91 st_W_isWord (As := [.long (lN w)]) (c_W_isWord l D g hw) rfl (by decide) (Nat.le_of_ble_eq_true rfl) (by omega) (by omega) (fun r X1 hq hl => ?_)
  obtain ⟨rfl, hxeq⟩ := hq
  obtain rfl := hxeq.symm
  refine kn_if_ne hB T_accepts_12 (by cases jokw 15 8 w <;> decide) (fun hz2 => ?_) (fun hz2 => no (by rw [jb_f hz2, Bool.and_false]))
  have hz2 := jb_t hz2
  rw [hz, hz2] at hF
  obtain ⟨d1, d2⟩ := (jokw_iff 8 15 w).mp hz2
  have d2 : w < 2 ^ 60 := d2
  obtain ⟨fx, v1, v2, v3, v4, v5, v6⟩ := hv.1
  refine kw_aload_n hB T_accepts_17 rfl ?_
  refine kw_getf hB T_accepts_18 f_T_19 a1 rfl ?_
  refine kw_getf hB T_accepts_21 f_T_83 a4.1 rfl ?_
  refine kw_iload_n hB T_accepts_24 (v := nI (jv x)) (by rw [← e1]; rfl) ?_
  refine kn_aald hB T_accepts_25 f1 rfl rfl hk6 (by decide) f2 ?_
  refine kw_lload_n hB T_accepts_26 rfl ?_
  refine kw_callV hB T_accepts_27 s_T_95 im_L_contains se_L_contains v1.1 rfl rfl (As := [.long (lN w)]) (c_L_contains l D g v1 v3 (by omega) v2 v6 v4 d2 (fun i hi => jdg_dig d1 hi)) rfl (by decide) (Nat.le_of_ble_eq_true rfl) (by omega) (by omega) (fun r X1 hq hl => ?_)
  obtain ⟨rfl, hxeq⟩ := hq
  obtain rfl := hxeq.symm
  refine kn_if_eq hB T_accepts_30 (by cases (jSn (jFin n K V A B M L) (jv x)).2.1.testBit (jrun (jXf (jSn (jFin n K V A B M L) (jv x))) w (jlen w)) <;> decide) (fun hb => ?_) (fun hb => ?_)
  · refine kw_iconst hB T_accepts_37 (v := nI 0) (by decide) ?_
    refine kw_iret hF rfl T_accepts_38 ⟨?_, rfl⟩ (by simp)
    have : jAcw (jSn (jFin n K V A B M L) (jv x)) w = false := jb_f hb
    rw [this]; rfl
  · refine kw_iconst hB T_accepts_33 (v := nI 1) (by decide) ?_
    refine kw_goto hB T_accepts_34 ?_
    refine kw_iret hF rfl T_accepts_38 ⟨?_, rfl⟩ (by simp)
    have : jAcw (jSn (jFin n K V A B M L) (jv x)) w = true := jb_t hb
    rw [this]; rfl
noncomputable def jWit (L : jLan) (y : Int32) : Int32 := match jWt L with
  | none => -1
  | some w => if y < 0 then -1 else nI (match w[jv y]? with | some c => c + 1 | none => 0)
set_option maxHeartbeats 4000000 in
set_option maxRecDepth 100000 in
theorem c_T_witness {x y : Int32} (h : jCl X n s K V A B M L σ md ip wd pl hn ed) : AMet l D g 1 0 0 m_T_witness [.ref 1, .int x, .int y] X (fun r X' => r = some (.int (if md && jin s x then jWit (jSn (jFin n K V A B M L) (jv x)) y else -1)) ∧ X' = X) := by
  have h0 := h
  obtain ⟨a1, a2, a3, ⟨un, rd, a4, a4'⟩, a5, a6, ⟨c, wt, a7, a7'⟩, -⟩ := h
  have hs6 := a2.2.1
  refine ja_metK (by decide) rfl (Nat.le_of_ble_eq_true rfl) fun K9 hB hF => ?_
  have no : (if md && jin s x then jWit (jSn (jFin n K V A B M L) (jv x)) y else -1) = -1 → K9 23 [.ref 1, .int x, .int y] [] X 0 0 := by
    intro hno
    refine kw_iconst hB T_witness_23 (v := -1) (by decide) ?_
    refine kw_iret hF rfl T_witness_24 ?_ (by first | (simp [jLs_len]; done) | (simp [*]; done))
    exact ⟨by rw [hno], rfl⟩
  refine kw_aload_n hB T_witness_0 rfl ?_
  refine kw_iload_n hB T_witness_1 rfl ?_
  refine kw_callV hB T_witness_2 s_T_80 im_T_hasSink se_T_hasSink a1 rfl rfl (As := [.int x]) (c_T_hasSink l D g h0) rfl (by decide) (Nat.le_of_ble_eq_true rfl) (by omega) (by omega) (fun r X1 hq hl => ?_)
  obtain ⟨rfl, hxeq⟩ := hq
  obtain rfl := hxeq.symm
  refine kn_if_eq hB T_witness_5 (by cases (md && jin s x) <;> decide) (fun hz => no (by rw [jb_f hz]; rfl)) (fun hz => ?_)
  have hz := jb_t hz
  rw [hz] at hF no
  obtain ⟨hm, hx⟩ := Bool.and_eq_true_iff.mp hz
  obtain ⟨e1, e2⟩ := jin_v hx (by omega)
  obtain ⟨rfl, rfl⟩ := a7' hm
  have no : jWit (jSn (jFin n K V A B M L) (jv x)) y = -1 → K9 23 [.ref 1, .int x, .int y] [] X 0 0 := no
  refine kw_aload_n hB T_witness_8 rfl ?_
  refine kw_getf hB T_witness_9 f_T_19 a1 rfl ?_
  refine kw_iload_n hB T_witness_12 rfl ?_
  have eu := c_A_isUnsafe l D g a4.1 a7 e2 (by omega)
  rw [← e1] at eu
  refine kw_callV hB T_witness_13 s_T_98 im_A_isUnsafe se_A_isUnsafe a4.1 rfl rfl (As := [.int x]) (eu) rfl (by decide) (Nat.le_of_ble_eq_true rfl) (by omega) (by omega) (fun r X1 hq hl => ?_)
  obtain ⟨rfl, hxeq⟩ := hq
  obtain rfl := hxeq.symm
  refine kn_if_eq hB T_witness_16 (by cases (jWt (jSn (jFin n K V A B M L) (jv x))).isSome <;> decide) (fun hs => no ?_) (fun hs => ?_)
  · have hs : (jWt (jSn (jFin n K V A B M L) (jv x))).isSome = false := jb_f hs
    unfold jWit
    cases hw : jWt (jSn (jFin n K V A B M L) (jv x)) with
    | none => rfl
    | some w => rw [hw] at hs; cases hs
  have hs : (jWt (jSn (jFin n K V A B M L) (jv x))).isSome = true := jb_t hs
  cases hw : jWt (jSn (jFin n K V A B M L) (jv x)) with
  | none => rw [hw] at hs; cases hs
  | some w =>
    refine kw_iload_n hB T_witness_19 rfl ?_
    refine kw_if_ge hB T_witness_20 (fun hc => ?_) (fun hc => no ?_)
    · have hc' : ¬ y < 0 := Int32.not_lt.mpr hc
      obtain ⟨i, hi, rfl⟩ := nI_of hc'
      have ew := c_A_witnessLetter l D g (i := i) a4.1 a7 e2 (by omega) hw hi
      rw [← e1] at ew
      refine kw_aload_n hB T_witness_25 rfl ?_
      refine kw_getf hB T_witness_26 f_T_19 a1 rfl ?_
      refine kw_iload_n hB T_witness_29 rfl ?_
      refine kw_iload_n hB T_witness_30 rfl ?_
      refine kw_callV hB T_witness_31 s_T_101 im_A_witnessLetter se_A_witnessLetter a4.1 rfl rfl (As := [.int x, .int (nI i)]) (ew) rfl (by decide) (Nat.le_of_ble_eq_true rfl) (by omega) (by omega) (fun r X1 hq hl => ?_)
      obtain ⟨rfl, hxeq⟩ := hq
      obtain rfl := hxeq.symm
      refine kw_iret hF rfl T_witness_34 ⟨?_, rfl⟩ (by simp)
      unfold jWit
      rw [hw]
      show _ = some (Value.int (if nI i < 0 then -1 else nI (match w[jv (nI i)]? with | some c => c + 1 | none => 0)))
      rw [if_neg hc', jv_nI hi]
      cases w[i]? <;> rfl
    · have hc' : y < 0 := Int32.not_le.mp hc
      unfold jWit
      rw [hw]
      exact if_pos hc'
set_option maxHeartbeats 4000000 in
set_option maxRecDepth 100000 in
theorem c_T_rounds {x : Int32} (h : jCl X n s K V A B M L σ md ip wd pl hn ed) : AMet l D g 0 0 0 m_T_rounds [.ref 1, .int x] X (fun r X' => r = some (.int (if md && jin n x && decide (K (jv x) = 7) then nI ((jFin n K V A B M L).2.1 (jv x)) else -1)) ∧ X' = X) := by
  obtain ⟨a1, a2, ⟨kd, vr, fs, sc, mt, lv, pt, hd, r, rl, rs⟩, ⟨un, rd, a4, a4'⟩, -⟩ := h
  have hn24 := a2.1
  refine ja_metK (by decide) rfl (Nat.le_of_ble_eq_true rfl) fun K9 hB hF => ?_
  have no : (md && jin n x && decide (K (jv x) = 7)) = false → K9 39 [.ref 1, .int x] [] X 0 0 := by
    intro hno
    refine kw_iconst hB T_rounds_39 (v := -1) (by decide) ?_
    refine kw_iret hF rfl T_rounds_40 ?_ (by first | (simp [jLs_len]; done) | (simp [*]; done))
    exact ⟨by rw [hno]; rfl, rfl⟩
  refine kw_aload_n hB T_rounds_0 rfl ?_
  refine kw_getf hB T_rounds_1 f_T_19 a1 rfl ?_
  refine kw_getf hB T_rounds_4 f_T_69 a4.1 rfl ?_
  refine kn_if_eq hB T_rounds_7 (by cases md <;> decide) (fun hm => no (by rw [jb_f hm]; rfl)) (fun hm => ?_)
  have hm := jb_t hm
  refine kw_iload_n hB T_rounds_10 rfl ?_
  refine kw_if_lt hB T_rounds_11 (fun hc => no (by rw [jin_neg hc, Bool.and_false]; rfl)) (fun hc => ?_)
  obtain ⟨j, hj, rfl⟩ := nI_of hc
  refine kw_iload_n hB T_rounds_14 rfl ?_
  refine kw_aload_n hB T_rounds_15 rfl ?_
  refine kw_getf hB T_rounds_16 f_T_10 a1 rfl ?_
  refine kw_getf hB T_rounds_19 f_T_60 r.1 rfl ?_
  refine kn_icmp_ge hB T_rounds_22 (by omega) (by omega) (fun h1 => no ?_) (fun h1 => ?_)
  · rw [jin_nI hj, decide_eq_false (show ¬ j < n by omega), Bool.and_false]; rfl
  · have hkb := (a2.2.2.2.2.2 j h1).1
    rw [jv_nI hj] at no hF
    refine kw_aload_n hB T_rounds_25 rfl ?_
    refine kw_getf hB T_rounds_26 f_T_10 a1 rfl ?_
    refine kw_getf hB T_rounds_29 f_T_105 r.1 rfl ?_
    refine kw_iload_n hB T_rounds_32 rfl ?_
    refine kn_iald hB T_rounds_33 r.2.1 rfl (by omega) (by decide) ?_
    rw [(rl j h1).1]
    refine kw_bipush hB T_rounds_34 (v := nI 7) (by decide) ?_
    refine kn_icmp_eq hB T_rounds_36 (by omega) (by decide) (fun h7 => ?_) (fun h7 => no ?_)
    · refine kw_aload_n hB T_rounds_41 rfl ?_
      refine kw_getf hB T_rounds_42 f_T_19 a1 rfl ?_
      refine kw_getf hB T_rounds_45 f_T_109 a4.1 rfl ?_
      refine kw_iload_n hB T_rounds_48 rfl ?_
      refine kn_iald hB T_rounds_49 a4.2.2.2.2.2.2.2.2 rfl (by omega) (by decide) ?_
      refine kw_iret hF rfl T_rounds_50 ⟨?_, rfl⟩ (by simp)
      rw [hm, jin_nI hj, decide_eq_true h1, decide_eq_true h7, (a4' hm).2.2 j h1 h7]; rfl
    · rw [decide_eq_false h7, Bool.and_false]
set_option maxHeartbeats 4000000 in
set_option maxRecDepth 100000 in
theorem c_T_give {x c : Int32} (h : jCl X n s K V A B M L σ md ip wd pl hn ed) : AMet l D g 2 0 0 m_T_give [.ref 1, .int x, .int c] X (fun r X' => ((jin 3 x && jokc c) = true → r = some (.int (nI 1)) ∧ jCl X' n s K V A B M L σ md (va_up ip (jv x) (jcw c)) wd pl hn ed ∧ jfr jCS X X') ∧ ((jin 3 x && jokc c) = false → r = some (.int (nI 0)) ∧ X' = X)) := by
  obtain ⟨a1, a2, a3, ⟨un, rd, a4, a4'⟩, ⟨sk, a5, a5'⟩, a6, ⟨c', wt, a7, a7'⟩, ⟨val, a8⟩, a9⟩ := h
  obtain ⟨ipf, plf, wdf, vlf, n0, nip, nwd, nvl⟩ := a8
  refine ja_metK (by decide) rfl (Nat.le_of_ble_eq_true rfl) fun K9 hB hF => ?_
  have no : (jin 3 x && jokc c) = false → K9 14 [.ref 1, .int x, .int c] [] X 0 0 := by
    intro hno
    refine kw_iconst hB T_give_14 (v := nI 0) (by decide) ?_
    refine kw_zret hF rfl (by first | rfl | decide) T_give_15 ?_ (by first | (simp [jLs_len]; done) | (simp [*]; done))
    exact ⟨fun z => absurd (hno.symm.trans z) (by decide), fun _ => ⟨rfl, rfl⟩⟩
  refine kw_iload_n hB T_give_0 rfl ?_
  refine kw_callS hB T_give_1 s_T_43 st_T_isInput (As := [.int x]) (c_T_isInput l D g) rfl (by decide) (Nat.le_of_ble_eq_true rfl) (by omega) (by omega) (fun r X1 hq hl => ?_)
  obtain ⟨rfl, hxeq⟩ := hq
  obtain rfl := hxeq.symm
  refine kn_if_eq hB T_give_4 (by cases jin 3 x <;> decide) (fun hz => no (by rw [jb_f hz]; rfl)) (fun hz => ?_)
  refine kw_iload_n hB T_give_7 rfl ?_
  refine kw_callS hB T_give_8 s_T_34 st_W_isConstant (As := [.int c]) (c_W_isConstant l D g (jcw_eq c).1 (jcw_eq c).2) rfl (by decide) (Nat.le_of_ble_eq_true rfl) (by omega) (by omega) (fun r X1 hq hl => ?_)
  obtain ⟨rfl, hxeq⟩ := hq
  obtain rfl := hxeq.symm
  refine kn_if_ne hB T_give_11 (by cases jokw 6 4 (jcw c) <;> decide) (fun hz2 => ?_) (fun hz2 => no (by have : jokc c = false := jb_f hz2; rw [this, Bool.and_false]))
  have h1 : jin 3 x = true := jb_t hz
  have h2 : jokc c = true := jb_t hz2
  obtain ⟨e1, e2⟩ := jin_v h1 (by decide)
  obtain ⟨e3, e4, e5⟩ := jokc_v h2
  refine kw_aload_n hB T_give_16 rfl ?_
  refine kw_getf hB T_give_17 f_T_26 a1 rfl ?_
  refine kw_getf hB T_give_20 f_T_112 n0.1 rfl ?_
  refine kw_iload_n hB T_give_23 (v := nI (jv x)) (by rw [← e1]; rfl) ?_
  refine kw_iload_n hB T_give_24 rfl ?_
  refine kn_iast hB T_give_25 n0.2.1 rfl e2 (by decide) ?_
  have hf := jset_fr X 141 (.inl (0, 3, .inl (upd ipf (jv x) c)))
  have h141 : 141 < X.length := (List.getElem?_eq_some_iff.mp n0.2.1).1
  have m1 : ∀ j ∈ [141], j = 141 := fun j hj => List.mem_singleton.mp hj
  have n1 : ∀ j, j ≠ 141 → j ∉ [141] := fun j hj z => hj (List.mem_singleton.mp z)
  refine kw_iconst hB T_give_26 (v := nI 1) (by decide) ?_
  refine kw_zret hF rfl (by decide) T_give_27 ⟨fun _ => ⟨rfl, ⟨hf.at (n1 _ (by decide)) a1, a2, a3.fr hf (fun j hj => by have := m1 j hj; omega), ⟨un, rd, a4.fr hf (fun j hj => by have := m1 j hj; omega), a4'⟩, ⟨sk, a5.fr hf (fun j hj => by have := m1 j hj; omega), a5'⟩, a6.fr hf (n1 _ (by decide)) (n1 _ (by decide)), ⟨c', wt, a7.fr hf (fun j hj => by have := m1 j hj; omega), a7'⟩, ⟨val, upd ipf (jv x) c, plf, wdf, vlf, ⟨hf.at (n1 _ (by decide)) n0.1, List.getElem?_set_self h141, hf.at (n1 _ (by decide)) n0.2.2.1, hf.at (n1 _ (by decide)) n0.2.2.2.1, hf.at (n1 _ (by decide)) n0.2.2.2.2⟩, fun i hi => ?_, nwd, nvl⟩, a9⟩, hf.mono (fun j hj => by have := m1 j hj; rw [jCS_mem]; omega)⟩, fun z => by rw [h1, h2] at z; cases z⟩ (by simp)
  by_cases hix : i = jv x
  · subst hix; rw [pk_us, jup_self]; exact ⟨e3, e4, e5⟩
  · rw [pk_un hix, jup_ne hix]; exact nip i hi
set_option maxHeartbeats 4000000 in
set_option maxRecDepth 100000 in
theorem c_T_run {x : Int32} (h : jCl X n s K V A B M L σ md ip wd pl hn ed) : AMet l D g 5 0 0 m_T_run [.ref 1, .int x] X (fun r X' => ((jin 1001 x && decide (jv x ≠ 0) && decide ((σ n).length = 0)) = true → ∃ (o : Option Nat) (val : Nat → Nat) (hn' : Nat) (wd' pl' : Nat → Nat), jNk K V A B M ip n (jv x) (some 0) (fun _ => 0, 0, wd, pl) = (o, val, hn', wd', pl') ∧ r = some (.int (nI hn')) ∧ jCl X' n s K V A B M L σ md ip wd' pl' hn' (nI (jNe n o)) ∧ jfr jCS X X') ∧ ((jin 1001 x && decide (jv x ≠ 0) && decide ((σ n).length = 0)) = false → r = some (.int (-1)) ∧ X' = X)) := by
  obtain ⟨a1, a2, a3, ⟨un, rd, a4, a4'⟩, ⟨sk, a5, a5'⟩, a6, ⟨c', wt, a7, a7'⟩, ⟨val0, a8⟩, a9⟩ := h
  have a3' := a3
  obtain ⟨kd, vr, fs, sc, mt, lv, pt, hd, r, rl, rs⟩ := a3
  have hl3 := a2.2.2.1.len (Nat.le_refl n)
  refine ja_metK (by decide) rfl (Nat.le_of_ble_eq_true rfl) fun K9 hB hF => ?_
  have no : (jin 1001 x && decide (jv x ≠ 0) && decide ((σ n).length = 0)) = false → K9 22 [.ref 1, .int x] [] X 0 0 := by
    intro hno
    refine kw_iconst hB T_run_22 (v := -1) (by decide) ?_
    refine kw_iret hF rfl T_run_23 ?_ (by first | (simp [jLs_len]; done) | (simp [*]; done))
    exact ⟨fun z => absurd (hno.symm.trans z) (by decide), fun _ => ⟨rfl, rfl⟩⟩
  refine kw_iload_n hB T_run_0 rfl ?_
  refine kw_iconst hB T_run_1 (v := nI 1) (by decide) ?_
  refine kw_icmp_lt hB T_run_2 (fun hc => no ?_) (fun hc => ?_)
  · by_cases hn0 : x < 0
    · rw [jin_neg hn0]; rfl
    · obtain ⟨z, hz, rfl⟩ := nI_of hn0
      have hz3 : z < 1 := (nI_ltI hz (by decide)).mp hc
      rw [jv_nI hz, show z = 0 by omega]; simp
  obtain ⟨z, hzz, rfl⟩ : ∃ j, j < 2 ^ 31 ∧ x = nI j := nI_of (fun hn0 => hc (by
    have b1 := Int32.lt_iff_toInt_lt.mp hn0
    have b0 : (0 : Int32).toInt = 0 := by decide
    have b2 : (nI 1).toInt = 1 := by decide
    exact Int32.lt_iff_toInt_lt.mpr (by omega)))
  have hz1 : ¬ z < 1 := fun q => hc ((nI_ltI hzz (by decide)).mpr q)
  rw [jin_nI hzz, jv_nI hzz] at hF no
  refine kw_iload_n hB T_run_5 rfl ?_
  refine kw_sipush hB T_run_6 (v := nI 1000) (by decide) ?_
  refine kn_icmp_gt hB T_run_9 (by omega) (by decide) (fun h1 => no ?_) (fun h1 => ?_)
  · rw [decide_eq_false (show ¬ z < 1001 by omega)]; rfl
  refine kw_aload_n hB T_run_12 rfl ?_
  refine kw_getf hB T_run_13 f_T_10 a1 rfl ?_
  refine kw_getf hB T_run_16 f_T_57 r.1 rfl ?_
  refine kw_if_le hB T_run_19 (fun hc => ?_) (fun hc => no ?_)
  · have hz : (σ n).length = 0 := by have := (nI_leI (b := 0) (by omega) (by decide)).mp hc; omega
    have hσ : σ n = [] := List.eq_nil_of_length_eq_zero hz
    have hok : (decide (z < 1001) && decide (z ≠ 0) && decide ((σ n).length = 0)) = true := by rw [decide_eq_true (show z < 1001 by omega), decide_eq_true (show z ≠ 0 by omega), decide_eq_true hz]; rfl
    obtain ⟨ipf, plf, wdf, vlf, n0, -⟩ := id a8
    refine kw_aload_n hB T_run_24 rfl ?_
    refine kw_getf hB T_run_25 f_T_26 a1 rfl ?_
    refine kw_aload_n hB T_run_28 rfl ?_
    refine kw_getf hB T_run_29 f_T_10 a1 rfl ?_
    refine kw_iload_n hB T_run_32 rfl ?_
    refine kw_callV hB T_run_33 s_T_115 im_N_start se_N_start n0.1 rfl rfl (As := [.ref 2, .int (nI z)]) (c_N_start l D g (p := 2) a8 (a3'.rv a2 hσ) (by omega) (fun k hk => by simp only [List.mem_cons, List.not_mem_nil, or_false] at hk; omega)) rfl (by decide) (Nat.le_of_ble_eq_true rfl) (by omega) (by omega) (fun r X1 hq hl => ?_)
    obtain ⟨hf, o, val, hn', wd', pl', e1, rfl, e2, e3⟩ := hq
    have hle := hf.1
    have m1 : ∀ j ∈ jNrS 140, 140 ≤ j ∧ j ≤ 144 := fun j hj => by simp only [List.mem_cons, List.not_mem_nil, or_false] at hj; omega
    have n1 : ∀ j, j < 140 ∨ 144 < j → j ∉ jNrS 140 := fun j hj z => by have := m1 j z; omega
    refine kw_iret hF rfl T_run_36 ⟨fun _ => ⟨o, val, hn', wd', pl', e1, rfl, ⟨hf.at (n1 _ (by decide)) a1, a2, a3'.fr hf (fun j hj => by have := m1 j hj; omega), ⟨un, rd, a4.fr hf (fun j hj => by have := m1 j hj; omega), a4'⟩, ⟨sk, a5.fr hf (fun j hj => by have := m1 j hj; omega), a5'⟩, a6.fr hf (n1 _ (by decide)) (n1 _ (by decide)), ⟨c', wt, a7.fr hf (fun j hj => by have := m1 j hj; omega), a7'⟩, ⟨val, e2⟩, e3⟩, hf.mono (fun j hj => by have := m1 j hj; rw [jCS_mem]; omega)⟩, fun z => absurd (hok.symm.trans z) (by decide)⟩ (by omega)
  · have hz : (σ n).length ≠ 0 := fun z => hc (by rw [z]; decide)
    rw [decide_eq_false hz, Bool.and_false]
set_option maxHeartbeats 4000000 in
set_option maxRecDepth 100000 in
theorem c_T_ended (h : jCl X n s K V A B M L σ md ip wd pl hn ed) : AMet l D g 0 0 0 m_T_ended [.ref 1] X (fun r X' => r = some (.int ed) ∧ X' = X) := by
  obtain ⟨a1, a2, a3, a4, a5, a6, a7, ⟨val0, ⟨ipf, plf, wdf, vlf, n0, -⟩⟩, a9⟩ := h
  refine ja_metK (by decide) rfl (Nat.le_of_ble_eq_true rfl) fun K9 hB hF => ?_
  refine kw_aload_n hB T_ended_0 rfl ?_
  refine kw_getf hB T_ended_1 f_T_26 a1 rfl ?_
  refine kw_getf hB T_ended_4 f_T_119 n0.1 rfl ?_
  refine kw_iret hF rfl T_ended_7 ⟨rfl, rfl⟩ (by simp)
theorem jkept {x : Int32} {b : Bool} (hh : hn ≤ 1000) (h : b = true ↔ ∃ j, x = nI j ∧ j < hn ∧ j < 20) : b = (jin 20 x && jin hn x) := by
  rw [Bool.eq_iff_iff, h, Bool.and_eq_true_iff]
  constructor
  · rintro ⟨j, rfl, h1, h2⟩
    rw [jin_nI (by omega), jin_nI (by omega), decide_eq_true h1, decide_eq_true h2]
    exact ⟨rfl, rfl⟩
  · rintro ⟨h1, h2⟩
    obtain ⟨e1, e2⟩ := jin_v h1 (by decide)
    obtain ⟨e3, e4⟩ := jin_v h2 (by omega)
    exact ⟨jv x, e1, e4, e2⟩
set_option maxHeartbeats 4000000 in
set_option maxRecDepth 100000 in
theorem c_T_passed {x : Int32} (h : jCl X n s K V A B M L σ md ip wd pl hn ed) : AMet l D g 1 0 0 m_T_passed [.ref 1, .int x] X (fun r X' => r = some (.long (if jin 20 x && jin hn x then lN (wd (jv x)) else -1)) ∧ X' = X) := by
  obtain ⟨a1, a2, a3, a4, a5, a6, a7, ⟨val0, a8⟩, a9⟩ := h
  have a8' := a8
  obtain ⟨ipf, plf, wdf, vlf, n0, nip, nwd, nvl⟩ := a8
  refine ja_metK (by decide) rfl (Nat.le_of_ble_eq_true rfl) fun K9 hB hF => ?_
  refine kw_aload_n hB T_passed_0 rfl ?_
  refine kw_getf hB T_passed_1 f_T_26 a1 rfl ?_
  refine kw_iload_n hB T_passed_4 rfl ?_
  refine kw_callV hB T_passed_5 s_T_122 im_N_isKept se_N_isKept n0.1 rfl rfl (As := [.int x]) (c_N_isKept l D g (x := x) a8' (by omega)) rfl (by decide) (Nat.le_of_ble_eq_true rfl) (by omega) (by omega) (fun r X1 hq hl => ?_)
  obtain ⟨⟨b, rfl, hb⟩, hxeq⟩ := hq
  obtain rfl := hxeq.symm
  have hb := jkept a9 hb
  rw [← hb] at hF
  refine kn_if_eq hB T_passed_8 (by cases b <;> decide) (fun hz => ?_) (fun hz => ?_)
  · refine kw_ldc2 hB T_passed_23 (v := -1) (jm 840 (by decide +kernel) rfl) ?_
    refine kw_lret hF rfl T_passed_26 ⟨by rw [jb_f hz]; rfl, rfl⟩ (by simp)
  · have hz := jb_t hz
    subst hz
    obtain ⟨h1, h2⟩ := Bool.and_eq_true_iff.mp hb.symm
    obtain ⟨e1, e2⟩ := jin_v h1 (by decide)
    obtain ⟨-, e4⟩ := jin_v h2 (by omega)
    refine kw_aload_n hB T_passed_11 rfl ?_
    refine kw_getf hB T_passed_12 f_T_26 a1 rfl ?_
    refine kw_getf hB T_passed_15 f_T_125 n0.1 rfl ?_
    refine kw_iload_n hB T_passed_18 (v := nI (jv x)) (by rw [← e1]; rfl) ?_
    refine kn_lald hB T_passed_19 n0.2.2.1 rfl e2 (by decide) ?_
    refine kw_goto hB T_passed_20 ?_
    refine kw_lret hF rfl T_passed_26 ⟨by rw [(nwd _ e2 e4).1]; rfl, rfl⟩ (by simp)
set_option maxHeartbeats 4000000 in
set_option maxRecDepth 100000 in
theorem c_T_place {x : Int32} (h : jCl X n s K V A B M L σ md ip wd pl hn ed) : AMet l D g 1 0 0 m_T_place [.ref 1, .int x] X (fun r X' => r = some (.int (if jin 20 x && jin hn x then nI (pl (jv x)) else -1)) ∧ X' = X) := by
  obtain ⟨a1, a2, a3, a4, a5, a6, a7, ⟨val0, a8⟩, a9⟩ := h
  have a8' := a8
  obtain ⟨ipf, plf, wdf, vlf, n0, nip, nwd, nvl⟩ := a8
  refine ja_metK (by decide) rfl (Nat.le_of_ble_eq_true rfl) fun K9 hB hF => ?_
  refine kw_aload_n hB T_place_0 rfl ?_
  refine kw_getf hB T_place_1 f_T_26 a1 rfl ?_
  refine kw_iload_n hB T_place_4 rfl ?_
  refine kw_callV hB T_place_5 s_T_122 im_N_isKept se_N_isKept n0.1 rfl rfl (As := [.int x]) (c_N_isKept l D g (x := x) a8' (by omega)) rfl (by decide) (Nat.le_of_ble_eq_true rfl) (by omega) (by omega) (fun r X1 hq hl => ?_)
  obtain ⟨⟨b, rfl, hb⟩, hxeq⟩ := hq
  obtain rfl := hxeq.symm
  have hb := jkept a9 hb
  rw [← hb] at hF
  refine kn_if_eq hB T_place_8 (by cases b <;> decide) (fun hz => ?_) (fun hz => ?_)
  · refine kw_iconst hB T_place_23 (v := -1) (by decide) ?_
    refine kw_iret hF rfl T_place_24 ⟨by rw [jb_f hz]; rfl, rfl⟩ (by simp)
  · have hz := jb_t hz
    subst hz
    obtain ⟨h1, h2⟩ := Bool.and_eq_true_iff.mp hb.symm
    obtain ⟨e1, e2⟩ := jin_v h1 (by decide)
    obtain ⟨-, e4⟩ := jin_v h2 (by omega)
    refine kw_aload_n hB T_place_11 rfl ?_
    refine kw_getf hB T_place_12 f_T_26 a1 rfl ?_
    refine kw_getf hB T_place_15 f_T_131 n0.1 rfl ?_
    refine kw_iload_n hB T_place_18 (v := nI (jv x)) (by rw [← e1]; rfl) ?_
    refine kn_iald hB T_place_19 n0.2.2.2.1 rfl e2 (by decide) ?_
    refine kw_goto hB T_place_20 ?_
    refine kw_iret hF rfl T_place_24 ⟨by rw [(nwd _ e2 e4).2]; rfl, rfl⟩ (by simp)
set_option maxHeartbeats 4000000 in
set_option maxRecDepth 100000 in
theorem c_T_attack {q w : Nat} (hw : w < 2 ^ 64) : AMet l D g 3 0 0 m_T_attack [.ref q, .long (lN w)] X (fun r X' => r = some (.int (if jokw 15 8 w then nI (decide (jatt w (jlen w) ≠ 0)).toNat else -1)) ∧ X' = X) := by
  refine ja_metK (by decide) rfl (Nat.le_of_ble_eq_true rfl) fun K9 hB hF => ?_
  refine kw_lload_n hB T_attack_0 rfl ?_
  refine kw_callS hB T_attack_1 s_T_91 st_W_isWord (As := [.long (lN w)]) (c_W_isWord l D g hw) rfl (by decide) (Nat.le_of_ble_eq_true rfl) (by omega) (by omega) (fun r X1 hq hl => ?_)
  obtain ⟨rfl, hxeq⟩ := hq
  obtain rfl := hxeq.symm
  refine kn_if_ne hB T_attack_4 (by cases jokw 15 8 w <;> decide) (fun hz2 => ?_) (fun hz2 => ?_)
  · have hz2 := jb_t hz2
    rw [hz2] at hF
    obtain ⟨d1, d2⟩ := (jokw_iff 8 15 w).mp hz2
    have d2 : w < 2 ^ 60 := d2
    refine kw_lload_n hB T_attack_9 rfl ?_
    refine kw_callS hB T_attack_10 s_T_134 st_W_isAttack (As := [.long (lN w)]) (c_W_isAttack l D g d2) rfl (by decide) (Nat.le_of_ble_eq_true rfl) (by omega) (by omega) (fun r X1 hq hl => ?_)
    obtain ⟨rfl, hxeq⟩ := hq
    obtain rfl := hxeq.symm
    refine kn_if_eq hB T_attack_13 (by cases decide (jatt w (jlen w) ≠ 0) <;> decide) (fun hb => ?_) (fun hb => ?_)
    · refine kw_iconst hB T_attack_20 (v := nI 0) (by decide) ?_
      refine kw_iret hF rfl T_attack_21 ⟨by rw [jb_f hb]; rfl, rfl⟩ (by simp)
    · refine kw_iconst hB T_attack_16 (v := nI 1) (by decide) ?_
      refine kw_goto hB T_attack_17 ?_
      refine kw_iret hF rfl T_attack_21 ⟨by rw [jb_t hb]; rfl, rfl⟩ (by simp)
  · have hz2 := jb_f hz2
    rw [hz2] at hF
    refine kw_iconst hB T_attack_7 (v := -1) (by decide) ?_
    refine kw_iret hF rfl T_attack_8 ⟨rfl, rfl⟩ (by simp)
end JT3
