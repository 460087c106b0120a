-- Analysis: its state; enter, turn, leaveWhen
def jOpt (X : ja_H) (q : Nat) (o : Option jLan) : Prop := jLx X q ∧ ∀ L, o = some L → jVal X q L
def jRefs (X : ja_H) (a b : Nat) : Prop := ∃ f : Nat → Option Nat, X[a]? = some (.inl (4, 15, .inr (.inr (.inr (.inr f))))) ∧ ∀ i, i < 15 → f i = some (b + 2 * i)
def jAS (X : ja_H) (md un : Int32) (rd : Nat → Int32) (nw : Nat → jLan) (bf bg : Nat → Option jLan) : Prop :=
  jAo X md un ∧ jSc X ∧ jNa X ∧ jRefs X 23 80 ∧ jRefs X 24 110 ∧ jNow X nw ∧ (∀ i, i < 15 → jOpt X (80 + 2 * i) (bf i)) ∧ (∀ i, i < 15 → jOpt X (110 + 2 * i) (bg i)) ∧ X[13]? = some (.inl (0, 24, .inl rd))
def jWk : List Nat := [13] ++ List.range' 27 31 ++ List.range' 70 70
theorem jWk_mem {k : Nat} : k ∈ jWk ↔ k = 13 ∨ (27 ≤ k ∧ k < 58) ∨ (70 ≤ k ∧ k < 140) := by
  simp only [jWk, List.mem_append, List.mem_range'_1, List.mem_cons, List.not_mem_nil, or_false]
  omega
theorem jOpt.fr {S : List Nat} {X Y : ja_H} {q : Nat} {o : Option jLan} (h : jOpt X q o) (hf : jfr S X Y) (h1 : q ∉ S) (h2 : q + 1 ∉ S) : jOpt Y q o := ⟨h.1.fr hf h1 h2, fun L e => (h.2 L e).fr hf h1 h2⟩
theorem jRefs.fr {S : List Nat} {X Y : ja_H} {a b : Nat} (h : jRefs X a b) (hf : jfr S X Y) (hS : a ∉ S) : jRefs Y a b := by
  obtain ⟨f, h1, h2⟩ := h
  exact ⟨f, hf.at hS h1, h2⟩
section JASL
variable {X Y : ja_H} {md un : Int32} {rd : Nat → Int32} {nw nw' : Nat → jLan} {bf bg : Nat → Option jLan} {S : List Nat}
theorem jAS.now (h : jAS X md un rd nw bf bg) (hf : jfr S X Y) (hS : ∀ k ∈ S, (27 ≤ k ∧ k < 58) ∨ (70 ≤ k ∧ k < 80)) (hs : jSc Y) (hn : jNow Y nw') : jAS Y md un rd nw' bf bg := by
  obtain ⟨a1, a2, a3, a4, a5, a6, a7, a8, a9⟩ := h
  have no : ∀ k, k < 27 ∨ 80 ≤ k → k ∉ S := fun k hk z => by have := hS k z; omega
  exact ⟨hf.at (no _ (by decide)) a1, hs, a3.fr hf (no _ (by decide)), a4.fr hf (no _ (by decide)), a5.fr hf (no _ (by decide)), hn, fun i hi => (a7 i hi).fr hf (no _ (by omega)) (no _ (by omega)), fun i hi => (a8 i hi).fr hf (no _ (by omega)) (no _ (by omega)), hf.at (no _ (by decide)) a9⟩
theorem jAS.bef {j : Nat} {L : jLan} (h : jAS X md un rd nw bf bg) (hf : jfr [80 + 2 * j, 80 + 2 * j + 1] X Y) (hj : j < 15) (hv : jVal Y (80 + 2 * j) L) : jAS Y md un rd nw (va_up bf j (some L)) bg := by
  obtain ⟨a1, a2, a3, a4, a5, a6, a7, a8, a9⟩ := h
  have no : ∀ k, k ≠ 80 + 2 * j → k ≠ 80 + 2 * j + 1 → k ∉ [80 + 2 * j, 80 + 2 * j + 1] := fun k h1 h2 z => by simp only [List.mem_cons, List.not_mem_nil, or_false] at z; omega
  have hm : ∀ k ∈ [80 + 2 * j, 80 + 2 * j + 1], 80 ≤ k ∧ k < 110 := fun k z => by simp only [List.mem_cons, List.not_mem_nil, or_false] at z; omega
  refine ⟨hf.at (no _ (by omega) (by omega)) a1, a2.fr hf (fun k hk => by have := hm k hk; omega), a3.fr hf (no _ (by omega) (by omega)), a4.fr hf (no _ (by omega) (by omega)), a5.fr hf (no _ (by omega) (by omega)), a6.fr hf (fun k hk => by have := hm k hk; omega), fun i hi => ?_, fun i hi => (a8 i hi).fr hf (no _ (by omega) (by omega)) (no _ (by omega) (by omega)), hf.at (no _ (by omega) (by omega)) a9⟩
  by_cases hij : i = j
  · subst hij; rw [jup_self]; exact ⟨hv.x, fun L' e => by rw [← Option.some.inj e]; exact hv⟩
  · rw [jup_ne hij]; exact (a7 i hi).fr hf (no _ (by omega) (by omega)) (no _ (by omega) (by omega))
theorem jAS.brt {j : Nat} {L : jLan} (h : jAS X md un rd nw bf bg) (hf : jfr [110 + 2 * j, 110 + 2 * j + 1] X Y) (hj : j < 15) (hv : jVal Y (110 + 2 * j) L) : jAS Y md un rd nw bf (va_up bg j (some L)) := by
  obtain ⟨a1, a2, a3, a4, a5, a6, a7, a8, a9⟩ := h
  have no : ∀ k, k ≠ 110 + 2 * j → k ≠ 110 + 2 * j + 1 → k ∉ [110 + 2 * j, 110 + 2 * j + 1] := fun k h1 h2 z => by simp only [List.mem_cons, List.not_mem_nil, or_false] at z; omega
  have hm : ∀ k ∈ [110 + 2 * j, 110 + 2 * j + 1], 110 ≤ k ∧ k < 140 := fun k z => by simp only [List.mem_cons, List.not_mem_nil, or_false] at z; omega
  refine ⟨hf.at (no _ (by omega) (by omega)) a1, a2.fr hf (fun k hk => by have := hm k hk; omega), a3.fr hf (no _ (by omega) (by omega)), a4.fr hf (no _ (by omega) (by omega)), a5.fr hf (no _ (by omega) (by omega)), a6.fr hf (fun k hk => by have := hm k hk; omega), fun i hi => (a7 i hi).fr hf (no _ (by omega) (by omega)) (no _ (by omega) (by omega)), fun i hi => ?_, hf.at (no _ (by omega) (by omega)) a9⟩
  by_cases hij : i = j
  · subst hij; rw [jup_self]; exact ⟨hv.x, fun L' e => by rw [← Option.some.inj e]; exact hv⟩
  · rw [jup_ne hij]; exact (a8 i hi).fr hf (no _ (by omega) (by omega)) (no _ (by omega) (by omega))
theorem jAS.nw1 {v : Nat} {L : jLan} (h : jAS X md un rd nw bf bg) (hf : jfr [70 + 2 * v, 70 + 2 * v + 1] X Y) (hv5 : v < 5) (hv : jVal Y (70 + 2 * v) L) : jAS Y md un rd (va_up nw v L) bf bg := by
  have hm : ∀ k ∈ [70 + 2 * v, 70 + 2 * v + 1], k = 70 + 2 * v ∨ k = 70 + 2 * v + 1 := fun k z => by simpa using z
  exact h.now hf (fun k hk => by have := hm k hk; omega) (h.2.1.fr hf (fun k hk => by have := hm k hk; omega)) (h.2.2.2.2.2.1.set hf (fun k hk => by have := hm k hk; omega) hv)
end JASL
/-- the first m of five languages kept from base on -/
def jPut (bf : Nat → Option jLan) (base m : Nat) (nw : Nat → jLan) : Nat → Option jLan := fun i => if base ≤ i ∧ i < base + m then some (nw (i - base)) else bf i
theorem jPut_0 (bf : Nat → Option jLan) (base : Nat) (nw : Nat → jLan) : jPut bf base 0 nw = bf := by
  funext i; unfold jPut; rw [if_neg (by omega)]
theorem jPut_s (bf : Nat → Option jLan) (base m : Nat) (nw : Nat → jLan) : va_up (jPut bf base m nw) (base + m) (some (nw m)) = jPut bf base (m + 1) nw := by
  funext i
  by_cases h : i = base + m
  · subst h; rw [jup_self]; unfold jPut; rw [if_pos (by omega), show base + m - base = m by omega]
  · rw [jup_ne h]; unfold jPut
    by_cases h2 : base ≤ i ∧ i < base + m
    · rw [if_pos h2, if_pos (by omega)]
    · rw [if_neg h2, if_neg (by omega)]
section JEN
variable (l : Launch) (D : va_G) (g : Nat × Nat) {X : ja_H}
theorem d_A_keep {n hd : Nat} {md un : Int32} {rd : Nat → Int32} {K0 V A B M L : Nat → Nat} {nw : Nat → jLan} {bf bg : Nat → Option jLan} {b : Bool} (h : jAS X md un rd nw bf bg) (hR : jRv X 2 n K0 V A B M L) (hh : hd < n) (hk : K0 hd = 5 ∨ K0 hd = 7) : AMet l D g 4 0 0 m_A_keep [.ref 11, .ref 2, .int (nI hd), .int (nI b.toNat)] X (fun r X' => r = none ∧ jAS X' md un rd (jKp nw (V hd) (A hd) (B hd) b) bf bg ∧ jfr jWk X X') := (c_A_keep l D g h.1 h.2.1 h.2.2.1 h.2.2.2.2.2.1 hR hh hk).post (fun r X' hq => by
  obtain ⟨h1, h2, h3, h4⟩ := hq
  have hm : ∀ k ∈ jNs ++ jZs, (27 ≤ k ∧ k < 58) ∨ (70 ≤ k ∧ k < 80) := fun k hk => by rw [List.mem_append, jNs_mem, jZs_mem] at hk; omega
  exact ⟨h1, h.now h4 hm h3 h2, h4.mono (fun k hk => by have := hm k hk; rw [jWk_mem]; omega)⟩)
set_option maxHeartbeats 8000000 in
set_option maxRecDepth 100000 in
theorem c_A_enter {n hd : Nat} {md un : Int32} {rd : Nat → Int32} {K0 V A B M L : Nat → Nat} {nw : Nat → jLan} {bf bg : Nat → Option jLan} (h : jAS X md un rd nw bf bg) (hR : jRv X 2 n K0 V A B M L) (hh : hd < n) (hk : K0 hd = 5 ∨ K0 hd = 7) : AMet l D g 5 0 0 m_A_enter [.ref 11, .ref 2, .int (nI hd)] X (fun r X' => r = none ∧ jAS X' md un rd (jKp nw (V hd) (A hd) (B hd) true) (jPut bf (L hd * 5) 5 nw) bg ∧ jfr jWk X X') := by
  have hR0 := hR
  obtain ⟨kd, vr, fs, sc, mt, lv, pt, hdd, sk, op, r, hn, hr⟩ := hR
  obtain ⟨r1, r2, r3, r4, -, r6, -, -, -, -, -, -, -, r14⟩ := hr hd hh
  obtain ⟨k1, k2⟩ := r14 (by omega)
  refine ja_metK (by decide) rfl (Nat.le_of_ble_eq_true rfl) fun K hB hF => ?_
  have loop : ∀ m v (Y : ja_H), v + m = 5 → jfr jWk X Y → jAS Y md un rd nw (jPut bf (L hd * 5) v nw) bg → K 12 [.ref 11, .ref 2, .int (nI hd), .int (nI (L hd * 5)), .int (nI v)] [] Y 0 0 := by
    intro m
    induction m with
    | zero =>
      intro v Y hv hf hY
      have hle := hf.1
      refine kw_iload hB A_enter_12 rfl ?_
      refine kw_iconst hB A_enter_14 (v := nI 5) (by decide) ?_
      refine kn_icmp_ge hB A_enter_15 (by omega) (by decide) (fun hc => ?_) (fun hc => absurd hc (by omega))
      refine kw_aload_n hB A_enter_43 rfl ?_
      refine kw_aload_n hB A_enter_44 rfl ?_
      refine kw_iload_n hB A_enter_45 rfl ?_
      refine kw_iconst hB A_enter_46 (v := nI 1) (by decide) ?_
      refine kw_callV hB A_enter_47 s_A_214 im_A_keep se_A_keep hY.1 rfl rfl (As := [.ref 2, .int (nI hd), .int (nI true.toNat)]) (d_A_keep l D g hY (hR0.fr hf (fun k hk => by rw [jWk_mem] at hk; omega)) hh hk) rfl (by decide) (Nat.le_of_ble_eq_true rfl) (by omega) (by omega) (fun r X1 hq hl => ?_)
      obtain ⟨rfl, e1, e2⟩ := hq
      have hle2 := e2.1
      refine kw_vret hF rfl A_enter_50 ?_ (by omega)
      rw [show v = 5 by omega] at e1
      exact ⟨rfl, e1, hf.tr e2⟩
    | succ m ih =>
      intro v Y hv hf hY
      have hle := hf.1
      obtain ⟨fb, b1, b2⟩ := hY.2.2.2.1
      obtain ⟨fa, a1, a2⟩ := hY.2.2.1
      have hb := (hY.2.2.2.2.2.2.1 (L hd * 5 + v) (by omega)).1
      have hw := hY.2.2.2.2.2.1 v (by omega)
      refine kw_iload hB A_enter_12 rfl ?_
      refine kw_iconst hB A_enter_14 (v := nI 5) (by decide) ?_
      refine kn_icmp_ge hB A_enter_15 (by omega) (by decide) (fun hc => absurd hc (by omega)) (fun hc => ?_)
      refine kw_aload_n hB A_enter_18 rfl ?_
      refine kw_getf hB A_enter_19 f_A_36 hY.1 rfl ?_
      refine kw_iload_n hB A_enter_22 rfl ?_
      refine kw_iload hB A_enter_23 rfl ?_
      refine kn_iadd hB A_enter_25 ?_
      refine kn_aald hB A_enter_26 b1 rfl rfl (by omega) (by decide) (b2 _ (by omega)) ?_
      refine kw_aload_n hB A_enter_27 rfl ?_
      refine kw_getf hB A_enter_28 f_A_33 hY.1 rfl ?_
      refine kw_iload hB A_enter_31 rfl ?_
      refine kn_aald hB A_enter_33 a1 rfl rfl (by omega) (by decide) (a2 _ (by omega)) ?_
      refine kw_callV hB A_enter_34 s_A_138 im_L_copy se_L_copy hb.choose_spec.choose_spec.choose_spec.1 rfl rfl (As := [.ref (70 + 2 * v)]) (w_L_copy l D g hb hw (by omega)) rfl (by decide) (Nat.le_of_ble_eq_true rfl) (by omega) (by omega) (fun r X1 hq hl => ?_)
      obtain ⟨rfl, e1, e2⟩ := hq
      refine kn_iinc hB A_enter_37 rfl (by decide) rfl ?_
      refine kw_goto hB A_enter_40 ?_
      refine ih (v + 1) X1 (by omega) (hf.tr (e2.mono (fun k hk => ?_))) ?_
      · rw [jWk_mem]; simp only [List.mem_cons, List.not_mem_nil, or_false] at hk; omega
      · rw [← jPut_s]; exact hY.bef e2 (by omega) e1
  refine kw_aload_n hB A_enter_0 rfl ?_
  refine kw_getf hB A_enter_1 f_A_211 r.1 rfl ?_
  refine kw_iload_n hB A_enter_4 rfl ?_
  refine kn_iald hB A_enter_5 r.2.2.2.2.2.2.1 rfl (by omega) (by decide) ?_
  rw [k1]
  refine kw_iconst hB A_enter_6 (v := nI 5) (by decide) ?_
  refine kn_imul hB A_enter_7 ?_
  refine kw_istore_n hB A_enter_8 rfl (by decide) rfl ?_
  refine kw_iconst hB A_enter_9 (v := nI 0) (by decide) ?_
  refine kw_istore hB A_enter_10 (by decide) rfl ?_
  exact loop 5 0 X (by omega) (jfr.rf _ _) (by rw [jPut_0]; exact h)
set_option maxHeartbeats 8000000 in
set_option maxRecDepth 100000 in
theorem c_A_turn {n hd : Nat} {md un : Int32} {rd : Nat → Int32} {K0 V A B M L : Nat → Nat} {nw od : Nat → jLan} {bf bg : Nat → Option jLan} (h : jAS X md un rd nw bf bg) (hR : jRv X 2 n K0 V A B M L) (hh : hd < n) (hk : K0 hd = 5 ∨ K0 hd = 7) (ho : ∀ v, v < 5 → bf (L hd * 5 + v) = some (od v)) : AMet l D g 5 0 0 m_A_turn [.ref 11, .ref 2, .int (nI hd)] X (fun r X' => r = none ∧ jAS X' md un rd (jKp od (V hd) (A hd) (B hd) false) bf (jPut bg (L hd * 5) 5 nw) ∧ jfr jWk X X') := by
  have hR0 := hR
  obtain ⟨kd, vr, fs, sc, mt, lv, pt, hdd, sk, op, r, hn, hr⟩ := hR
  obtain ⟨r1, r2, r3, r4, -, r6, -, -, -, -, -, -, -, r14⟩ := hr hd hh
  obtain ⟨k1, k2⟩ := r14 (by omega)
  refine ja_metK (by decide) rfl (Nat.le_of_ble_eq_true rfl) fun K hB hF => ?_
  have loop : ∀ m v (Y : ja_H) (cw : Nat → jLan), v + m = 5 → jfr jWk X Y → jAS Y md un rd cw bf (jPut bg (L hd * 5) v nw) → (∀ v', v' < v → cw v' = od v') → (∀ v', v ≤ v' → v' < 5 → cw v' = nw v') → K 12 [.ref 11, .ref 2, .int (nI hd), .int (nI (L hd * 5)), .int (nI v)] [] Y 0 0 := by
    intro m
    induction m with
    | zero =>
      intro v Y cw hv hf hY c1 c2
      have hle := hf.1
      have hY' : jAS Y md un rd od bf (jPut bg (L hd * 5) v nw) := by
        obtain ⟨a1, a2, a3, a4, a5, a6, a7⟩ := hY
        exact ⟨a1, a2, a3, a4, a5, fun v' hv' => by rw [← c1 v' (by omega)]; exact a6 v' hv', a7⟩
      refine kw_iload hB A_turn_12 rfl ?_
      refine kw_iconst hB A_turn_14 (v := nI 5) (by decide) ?_
      refine kn_icmp_ge hB A_turn_15 (by omega) (by decide) (fun hc => ?_) (fun hc => absurd hc (by omega))
      refine kw_aload_n hB A_turn_62 rfl ?_
      refine kw_aload_n hB A_turn_63 rfl ?_
      refine kw_iload_n hB A_turn_64 rfl ?_
      refine kw_iconst hB A_turn_65 (v := nI 0) (by decide) ?_
      refine kw_callV hB A_turn_66 s_A_214 im_A_keep se_A_keep hY.1 rfl rfl (As := [.ref 2, .int (nI hd), .int (nI false.toNat)]) (d_A_keep l D g hY' (hR0.fr hf (fun k hk => by rw [jWk_mem] at hk; omega)) hh hk) rfl (by decide) (Nat.le_of_ble_eq_true rfl) (by omega) (by omega) (fun r X1 hq hl => ?_)
      obtain ⟨rfl, e1, e2⟩ := hq
      have hle2 := e2.1
      refine kw_vret hF rfl A_turn_69 ?_ (by omega)
      rw [show v = 5 by omega] at e1
      exact ⟨rfl, e1, hf.tr e2⟩
    | succ m ih =>
      intro v Y cw hv hf hY c1 c2
      have hle := hf.1
      obtain ⟨fb, b1, b2⟩ := hY.2.2.2.2.1
      obtain ⟨fa, a1, a2⟩ := hY.2.2.1
      have hb := (hY.2.2.2.2.2.2.2.1 (L hd * 5 + v) (by omega)).1
      have hw := hY.2.2.2.2.2.1 v (by omega)
      refine kw_iload hB A_turn_12 rfl ?_
      refine kw_iconst hB A_turn_14 (v := nI 5) (by decide) ?_
      refine kn_icmp_ge hB A_turn_15 (by omega) (by decide) (fun hc => absurd hc (by omega)) (fun hc => ?_)
      refine kw_aload_n hB A_turn_18 rfl ?_
      refine kw_getf hB A_turn_19 f_A_39 hY.1 rfl ?_
      refine kw_iload_n hB A_turn_22 rfl ?_
      refine kw_iload hB A_turn_23 rfl ?_
      refine kn_iadd hB A_turn_25 ?_
      refine kn_aald hB A_turn_26 b1 rfl rfl (by omega) (by decide) (b2 _ (by omega)) ?_
      refine kw_aload_n hB A_turn_27 rfl ?_
      refine kw_getf hB A_turn_28 f_A_33 hY.1 rfl ?_
      refine kw_iload hB A_turn_31 rfl ?_
      refine kn_aald hB A_turn_33 a1 rfl rfl (by omega) (by decide) (a2 _ (by omega)) ?_
      refine kw_callV hB A_turn_34 s_A_138 im_L_copy se_L_copy hb.choose_spec.choose_spec.choose_spec.1 rfl rfl (As := [.ref (70 + 2 * v)]) (w_L_copy l D g hb hw (by omega)) rfl (by decide) (Nat.le_of_ble_eq_true rfl) (by omega) (by omega) (fun r X1 hq hl => ?_)
      obtain ⟨rfl, e1, e2⟩ := hq
      have hY1 := hY.brt e2 (by omega) e1
      rw [c2 v (by omega) (by omega), jPut_s] at hY1
      have f1 : jfr jWk X X1 := hf.tr (e2.mono (fun k hk => by rw [jWk_mem]; simp only [List.mem_cons, List.not_mem_nil, or_false] at hk; omega))
      obtain ⟨fa, a1, a2⟩ := hY1.2.2.1
      obtain ⟨fb, b1, b2⟩ := hY1.2.2.2.1
      have hw := hY1.2.2.2.2.2.1 v (by omega)
      have hb := (hY1.2.2.2.2.2.2.1 (L hd * 5 + v) (by omega)).2 _ (ho v (by omega))
      refine kw_aload_n hB A_turn_37 rfl ?_
      refine kw_getf hB A_turn_38 f_A_33 hY1.1 rfl ?_
      refine kw_iload hB A_turn_41 rfl ?_
      refine kn_aald hB A_turn_43 a1 rfl rfl (by omega) (by decide) (a2 _ (by omega)) ?_
      refine kw_aload_n hB A_turn_44 rfl ?_
      refine kw_getf hB A_turn_45 f_A_36 hY1.1 rfl ?_
      refine kw_iload_n hB A_turn_48 rfl ?_
      refine kw_iload hB A_turn_49 rfl ?_
      refine kn_iadd hB A_turn_51 ?_
      refine kn_aald hB A_turn_52 b1 rfl rfl (by omega) (by decide) (b2 _ (by omega)) ?_
      refine kw_callV hB A_turn_53 s_A_138 im_L_copy se_L_copy hw.1.choose_spec.1.1 rfl rfl (As := [.ref (80 + 2 * (L hd * 5 + v))]) (w_L_copy l D g hw.x hb (by omega)) rfl (by decide) (Nat.le_of_ble_eq_true rfl) (by omega) (by omega) (fun r X1 hq hl => ?_)
      obtain ⟨rfl, e3, e4⟩ := hq
      refine kn_iinc hB A_turn_56 rfl (by decide) rfl ?_
      refine kw_goto hB A_turn_59 ?_
      refine ih (v + 1) X1 _ (by omega) (f1.tr (e4.mono (fun k hk => ?_))) (hY1.nw1 e4 (by omega) e3) (fun v' hv' => ?_) (fun v' h1 h2 => ?_)
      · rw [jWk_mem]; simp only [List.mem_cons, List.not_mem_nil, or_false] at hk; omega
      · by_cases hvv : v' = v
        · subst hvv; rw [jup_self]
        · rw [jup_ne hvv]; exact c1 v' (by omega)
      · rw [jup_ne (by omega)]; exact c2 v' (by omega) h2
  refine kw_aload_n hB A_turn_0 rfl ?_
  refine kw_getf hB A_turn_1 f_A_211 r.1 rfl ?_
  refine kw_iload_n hB A_turn_4 rfl ?_
  refine kn_iald hB A_turn_5 r.2.2.2.2.2.2.1 rfl (by omega) (by decide) ?_
  rw [k1]
  refine kw_iconst hB A_turn_6 (v := nI 5) (by decide) ?_
  refine kn_imul hB A_turn_7 ?_
  refine kw_istore_n hB A_turn_8 rfl (by decide) rfl ?_
  refine kw_iconst hB A_turn_9 (v := nI 0) (by decide) ?_
  refine kw_istore hB A_turn_10 (by decide) rfl ?_
  exact loop 5 0 X nw (by omega) (jfr.rf _ _) (by rw [jPut_0]; exact h) (fun v' hv' => absurd hv' (by omega)) (fun _ _ _ => rfl)
end JEN
