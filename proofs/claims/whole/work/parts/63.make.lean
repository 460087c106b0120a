-- Analysis: make
def jA0 (X : ja_H) (md un : Int32) (rd : Nat → Int32) : Prop :=
  jAo X md un ∧ jSc X ∧ jNa X ∧ jRefs X 23 80 ∧ jRefs X 24 110 ∧ (∀ v, v < 5 → jLx X (70 + 2 * v)) ∧ (∀ i, i < 15 → jLx X (80 + 2 * i)) ∧ (∀ i, i < 15 → jLx X (110 + 2 * i)) ∧ X[13]? = some (.inl (0, 24, .inl rd))
theorem jAS.zero {X : ja_H} {md un : Int32} {rd : Nat → Int32} {nw : Nat → jLan} {bf bg : Nat → Option jLan} (h : jAS X md un rd nw bf bg) : jA0 X md un rd := by
  obtain ⟨a1, a2, a3, a4, a5, a6, a7, a8, a9⟩ := h
  exact ⟨a1, a2, a3, a4, a5, fun v hv => (a6 v hv).x, fun i hi => (a7 i hi).1, fun i hi => (a8 i hi).1, a9⟩
theorem jAS.fr {S : List Nat} {X Y : ja_H} {md un : Int32} {rd : Nat → Int32} {nw : Nat → jLan} {bf bg : Nat → Option jLan} (h : jAS X md un rd nw bf bg) (hf : jfr S X Y) (hS : ∀ k ∈ S, 58 ≤ k ∧ k < 70) : jAS Y md un rd nw bf bg := by
  obtain ⟨a1, a2, a3, a4, a5, a6, a7, a8, a9⟩ := h
  have no : ∀ k, k < 58 ∨ 70 ≤ k → k ∉ S := fun k hk z => by have := hS k z; omega
  exact ⟨hf.at (no _ (by decide)) a1, a2.fr hf (fun k hk => by have := hS k hk; omega), a3.fr hf (no _ (by decide)), a4.fr hf (no _ (by decide)), a5.fr hf (no _ (by decide)), a6.fr hf (fun k hk => by have := hS k hk; omega), fun i hi => (a7 i hi).fr hf (no _ (by omega)) (no _ (by omega)), fun i hi => (a8 i hi).fr hf (no _ (by omega)) (no _ (by omega)), hf.at (no _ (by decide)) a9⟩
theorem jSk.set {X Y : ja_H} {sk : Nat → Option jLan} {a : Nat} {L : jLan} (h : jSk X sk) (hf : jfr [58 + 2 * a, 58 + 2 * a + 1] X Y) (hv : jVal Y (58 + 2 * a) L) : jSk Y (va_up sk a (some L)) := by
  obtain ⟨⟨f, a1, a2⟩, a3⟩ := h
  have no : ∀ k, k ≠ 58 + 2 * a → k ≠ 58 + 2 * a + 1 → k ∉ [58 + 2 * a, 58 + 2 * a + 1] := fun k h1 h2 z => by simp only [List.mem_cons, List.not_mem_nil, or_false] at z; omega
  refine ⟨⟨f, hf.at (no _ (by omega) (by omega)) a1, a2⟩, fun i hi => ?_⟩
  by_cases hia : i = a
  · subst hia; rw [jup_self]; exact ⟨hv.x, fun L' e => by rw [← Option.some.inj e]; exact hv⟩
  · rw [jup_ne hia]; exact (a3 i hi).fr hf (no _ (by omega) (by omega)) (no _ (by omega) (by omega))
def jMs : List Nat := [11, 13] ++ List.range' 15 7 ++ List.range' 27 113
theorem jMs_mem {k : Nat} : k ∈ jMs ↔ k = 11 ∨ k = 13 ∨ (15 ≤ k ∧ k < 22) ∨ (27 ≤ k ∧ k < 140) := by
  simp only [jMs, List.mem_append, List.mem_range'_1, List.mem_cons, List.not_mem_nil, or_false]
  omega
def jMl : List Nat := [13] ++ List.range' 27 113
theorem jMl_mem {k : Nat} : k ∈ jMl ↔ k = 13 ∨ (27 ≤ k ∧ k < 140) := by
  simp only [jMl, List.mem_append, List.mem_range'_1, List.mem_cons, List.not_mem_nil, or_false]
theorem jis_some {bf : Nat → Option jLan} {l v : Nat} (h : (bf (l * 5 + v)).isSome = true) : bf (l * 5 + v) = some (jBf bf l v) := by
  unfold jBf
  cases hb : bf (l * 5 + v) with
  | none => rw [hb] at h; cases h
  | some L => rfl
theorem jtout {k : Nat} (h : k < 4) : (nI k).toInt < 4 ∨ 9 < (nI k).toInt := Or.inl (by rw [nI_toInt (by omega)]; omega)
theorem jI_ex (x : Int32) : ∃ k : Nat, x = nI k := ⟨x.toBitVec.toNat, by
  apply Int32.toBitVec_inj.mp
  show x.toBitVec = BitVec.ofNat 32 x.toBitVec.toNat
  simp⟩
section JMA
variable (l : Launch) (D : va_G) (g : Nat × Nat) {X : ja_H}
set_option maxHeartbeats 16000000 in
set_option maxRecDepth 100000 in
theorem c_A_makeLoop {n : Nat} {md un : Int32} {K0 V A B M L : Nat → Nat} {σ : Nat → List (Nat × Nat)} {K : ja_K} (hB : ja_B l D g m_A_make 6 0 0 K) (hR : jRv X 2 n K0 V A B M L) (hS : jSs n K0 M L σ) (hcl : σ n = []) (fin : ∀ (Y : ja_H) (rdh : Nat → Int32) (i : Nat) (u : Value), jfr jMl X Y → jAS Y md un rdh (jFin n K0 V A B M L).2.2.1 (jFin n K0 V A B M L).2.2.2.1 (jFin n K0 V A B M L).2.2.2.2.1 → jSk Y (jFin n K0 V A B M L).2.2.2.2.2 → (∀ h, h < n → K0 h = 7 → rdh h = nI ((jFin n K0 V A B M L).2.1 h)) → K 218 [.ref 11, .ref 2, .int (nI n), .int (nI i), u] [] Y 0 0) :
    ∀ m i (s1 : jSt) hw (Y : ja_H) (rdh : Nat → Int32) (u : Value), jPh n K0 M σ s1 ≤ m → i + m ≤ 9000000 → s1 = jIt n K0 V A B M L jS0 i → jDI n K0 A σ s1 hw → jfr jMl X Y → jAS Y md un rdh s1.2.2.1 s1.2.2.2.1 s1.2.2.2.2.1 → jSk Y s1.2.2.2.2.2 → (∀ h, h < hw → K0 h = 7 → rdh h = nI (s1.2.1 h)) → K 27 [.ref 11, .ref 2, .int (nI s1.1), .int (nI i), u] [] Y 0 0 := by
  have hR0 := hR
  obtain ⟨kd, vr, fs, sc, mt, lv, pt, hdd, sk0, op, r, hn, hr⟩ := hR
  have hK : ∀ i, i < n → K0 i < 10 := fun i hi => (hr i hi).2.2.2.2.1
  have hV : ∀ i, i < n → V i < 5 := fun i hi => (hr i hi).2.2.2.2.2.1
  intro m
  induction m with
  | zero =>
    intro i s1 hw Y rdh u hph him hit hI hf hY hYk hrd
    by_cases hlt : s1.1 < n
    · have := (jStep_ok hS hcl hK hV (B := B) hI hlt).2
      omega
    · have rY : jRr Y 2 _ _ _ _ _ _ _ _ _ _ _ := r.fr hf (fun k hk => by rw [jMl_mem] at hk; omega)
      have hin : s1.1 = n := by have := hI.1; omega
      have hhw : hw = n := by have := hI.2.1; have := hI.2.2.1; omega
      have hFe : jFin n K0 V A B M L = s1 := by rw [hit]; exact jFin_eq (by omega) (by rw [← hit]; omega)
      rw [hin]
      refine kw_iload_n hB A_make_27 rfl ?_
      refine kw_ldc hB A_make_28 (v := nI 100000000) (jm 517 (by decide +kernel) rfl) ?_
      refine kn_icmp_ge hB A_make_30 (by omega) (by decide) (fun hc => absurd hc (by omega)) (fun hc => ?_)
      refine kw_iload_n hB A_make_33 rfl ?_
      refine kw_aload_n hB A_make_34 rfl ?_
      refine kw_getf hB A_make_35 f_A_104 rY.1 rfl ?_
      refine kn_icmp_ge hB A_make_38 (by omega) (by omega) (fun hc => ?_) (fun hc => absurd hc (by omega))
      exact fin Y rdh i u hf (by rw [hFe]; exact hY) (by rw [hFe]; exact hYk) (fun h h1 h2 => by rw [hFe]; exact hrd h (by omega) h2)
  | succ m ih =>
    intro i s1 hw Y rdh u hph him hit hI hf hY hYk hrd
    have rY : jRr Y 2 _ _ _ _ _ _ _ _ _ _ _ := r.fr hf (fun k hk => by rw [jMl_mem] at hk; omega)
    by_cases hlt : s1.1 < n
    rotate_left
    · have hin : s1.1 = n := by have := hI.1; omega
      have hhw : hw = n := by have := hI.2.1; have := hI.2.2.1; omega
      have hFe : jFin n K0 V A B M L = s1 := by rw [hit]; exact jFin_eq (by omega) (by rw [← hit]; omega)
      rw [hin]
      refine kw_iload_n hB A_make_27 rfl ?_
      refine kw_ldc hB A_make_28 (v := nI 100000000) (jm 517 (by decide +kernel) rfl) ?_
      refine kn_icmp_ge hB A_make_30 (by omega) (by decide) (fun hc => absurd hc (by omega)) (fun hc => ?_)
      refine kw_iload_n hB A_make_33 rfl ?_
      refine kw_aload_n hB A_make_34 rfl ?_
      refine kw_getf hB A_make_35 f_A_104 rY.1 rfl ?_
      refine kn_icmp_ge hB A_make_38 (by omega) (by omega) (fun hc => ?_) (fun hc => absurd hc (by omega))
      exact fin Y rdh i u hf (by rw [hFe]; exact hY) (by rw [hFe]; exact hYk) (fun h h1 h2 => by rw [hFe]; exact hrd h (by omega) h2)
    have hso := jStep_ok hS hcl hK hV (B := B) hI hlt
    have hrdle := jIt_rd (n := n) (K := K0) (V := V) (A := A) (B := B) (M := M) (L := L) i
    rw [← hit] at hrdle
    have hst : jIt n K0 V A B M L jS0 (i + 1) = jStep n K0 V A B M L s1 := by rw [hit]; rfl
    obtain ⟨j, rd, nw, bf, bg, sk⟩ := s1
    have hj : j < n := hlt
    have hrdle : ∀ h, rd h ≤ i := hrdle
    have hst2 : jStep n K0 V A B M L (j, rd, nw, bf, bg, sk) = jGo K0 V A B M L j rd nw bf bg sk := if_pos hj
    rw [hst2] at hso hst
    obtain ⟨hso1, hso2⟩ := hso
    have hY : jAS Y md un rdh nw bf bg := hY
    have hYk : jSk Y sk := hYk
    have hrd : ∀ h, h < hw → K0 h = 7 → rdh h = nI (rd h) := hrd
    have hI3 : jDs bf bg (σ j) := hI.2.2.2.1
    have hjw : j ≤ hw := hI.2.1
    obtain ⟨r1, r2, r3, r4, r5, r6, -, -, -, -, k4, -, r13, r14⟩ := hr j hj
    have hle := hf.1
    clear hI
    have next : ∀ (s2 : jSt) (Z : ja_H) (rdh2 : Nat → Int32), jGo K0 V A B M L j rd nw bf bg sk = s2 → jfr jMl X Z → jAS Z md un rdh2 s2.2.2.1 s2.2.2.2.1 s2.2.2.2.2.1 → jSk Z s2.2.2.2.2.2 → (∀ h, h < max hw (j + 1) → K0 h = 7 → rdh2 h = nI (s2.2.1 h)) → K 209 [.ref 11, .ref 2, .int (nI j), .int (nI i), .int (nI s2.1)] [] Z 0 0 := by
      intro s2 Z rdh2 e f2 z1 z2 z3
      rw [e] at hso1 hso2 hst
      refine kw_iload hB A_make_209 rfl ?_
      refine kw_istore_n hB A_make_211 rfl (by decide) rfl ?_
      refine kn_iinc hB A_make_212 rfl (by decide) rfl ?_
      refine kw_goto hB A_make_215 ?_
      exact ih (i + 1) s2 _ Z rdh2 _ (by omega) (by omega) hst.symm hso1 f2 z1 z2 z3
    have rdold : K0 j ≠ 7 → ∀ h, h < max hw (j + 1) → K0 h = 7 → rdh h = nI (rd h) := fun hk h h1 h2 => hrd h (by
      have : h ≠ j := fun z => by subst z; exact hk h2
      omega) h2
    have wkm : ∀ k ∈ jWk, k ∈ jMl := fun k hk => by rw [jWk_mem] at hk; rw [jMl_mem]; omega
    have wks : ∀ k ∈ jWk, k ≠ 12 ∧ (k < 58 ∨ 70 ≤ k) := fun k hk => by rw [jWk_mem] at hk; omega
    have hRY : jRv Y 2 n K0 V A B M L := hR0.fr hf (fun k hk => by rw [jMl_mem] at hk; omega)
    show K 27 [.ref 11, .ref 2, .int (nI j), .int (nI i), u] [] Y 0 0
    refine kw_iload_n hB A_make_27 rfl ?_
    refine kw_ldc hB A_make_28 (v := nI 100000000) (jm 517 (by decide +kernel) rfl) ?_
    refine kn_icmp_ge hB A_make_30 (by omega) (by decide) (fun hc => absurd hc (by omega)) (fun hc => ?_)
    refine kw_iload_n hB A_make_33 rfl ?_
    refine kw_aload_n hB A_make_34 rfl ?_
    refine kw_getf hB A_make_35 f_A_104 rY.1 rfl ?_
    refine kn_icmp_ge hB A_make_38 (by omega) (by omega) (fun hc => absurd hc (by omega)) (fun hc => ?_)
    refine kw_iload_n hB A_make_41 rfl ?_
    refine kw_iconst hB A_make_42 (v := nI 1) (by decide) ?_
    refine kn_iadd hB A_make_43 ?_
    refine kw_istore hB A_make_44 (by decide) rfl ?_
    refine kw_aload_n hB A_make_46 rfl ?_
    refine kw_getf hB A_make_47 f_A_108 rY.1 rfl ?_
    refine kw_iload_n hB A_make_50 rfl ?_
    refine kn_iald hB A_make_51 rY.2.1 rfl (by omega) (by decide) ?_
    by_cases hk4 : K0 j = 4
    · refine kw_tableIn hB A_make_52 (off := 123) (tgt := 175) (by rw [r1, hk4]; decide) (by rw [r1, hk4]; decide) (by rw [r1, hk4]; rfl) rfl ?_
      have ha := k4 hk4
      obtain ⟨fa, a1, a2⟩ := hY.2.2.1
      have hw' := hY.2.2.2.2.2.1 (V j) r6
      obtain ⟨⟨fk, k1, k2⟩, k3⟩ := hYk
      have hb := (k3 (A j) ha).1
      refine kw_aload_n hB A_make_175 rfl ?_
      refine kw_getf hB A_make_176 f_A_15 hY.1 rfl ?_
      refine kw_aload_n hB A_make_179 rfl ?_
      refine kw_getf hB A_make_180 f_A_132 rY.1 rfl ?_
      refine kw_iload_n hB A_make_183 rfl ?_
      refine kn_iald hB A_make_184 rY.2.2.2.1 rfl (by omega) (by decide) ?_
      rw [r3]
      refine kn_aald hB A_make_185 k1 rfl rfl (by omega) (by decide) (k2 _ ha) ?_
      refine kw_aload_n hB A_make_186 rfl ?_
      refine kw_getf hB A_make_187 f_A_33 hY.1 rfl ?_
      refine kw_aload_n hB A_make_190 rfl ?_
      refine kw_getf hB A_make_191 f_A_135 rY.1 rfl ?_
      refine kw_iload_n hB A_make_194 rfl ?_
      refine kn_iald hB A_make_195 rY.2.2.1 rfl (by omega) (by decide) ?_
      rw [r2]
      refine kn_aald hB A_make_196 a1 rfl rfl (by omega) (by decide) (a2 _ r6) ?_
      refine kw_callV hB A_make_197 s_A_138 im_L_copy se_L_copy hb.choose_spec.choose_spec.choose_spec.1 rfl rfl (As := [.ref (70 + 2 * V j)]) (w_L_copy l D g hb hw' (by omega)) rfl (by decide) (Nat.le_of_ble_eq_true rfl) (by omega) (by omega) (fun r X1 hq hl => ?_)
      obtain ⟨rfl, e1, e2⟩ := hq
      refine kw_goto hB A_make_200 ?_
      refine next _ X1 rdh (jGo_4 hk4) (hf.tr (e2.mono (fun k hk => ?_))) (hY.fr e2 (fun k hk => ?_)) (jSk.set ⟨⟨fk, k1, k2⟩, k3⟩ e2 e1) (rdold (by omega))
      · rw [jMl_mem]; simp only [List.mem_cons, List.not_mem_nil, or_false] at hk; omega
      · simp only [List.mem_cons, List.not_mem_nil, or_false] at hk; omega
    by_cases hk5 : K0 j = 5
    · refine kw_tableIn hB A_make_52 (off := 40) (tgt := 92) (by rw [r1, hk5]; decide) (by rw [r1, hk5]; decide) (by rw [r1, hk5]; rfl) rfl ?_
      refine kw_aload_n hB A_make_92 rfl ?_
      refine kw_aload_n hB A_make_93 rfl ?_
      refine kw_iload_n hB A_make_94 rfl ?_
      refine kw_callV hB A_make_95 s_A_111 im_A_enter se_A_enter hY.1 rfl rfl (As := [.ref 2, .int (nI j)]) (c_A_enter l D g hY hRY hj (Or.inl hk5)) rfl (by decide) (Nat.le_of_ble_eq_true rfl) (by omega) (by omega) (fun r X1 hq hl => ?_)
      obtain ⟨rfl, e1, e2⟩ := hq
      refine kw_goto hB A_make_98 ?_
      exact next _ X1 rdh (jGo_5 hk5) (hf.tr (e2.mono wkm)) e1 (hYk.fr e2 wks) (rdold (by omega))
    by_cases hk7 : K0 j = 7
    · refine kw_tableIn hB A_make_52 (off := 96) (tgt := 148) (by rw [r1, hk7]; decide) (by rw [r1, hk7]; decide) (by rw [r1, hk7]; rfl) rfl ?_
      refine kw_aload_n hB A_make_148 rfl ?_
      refine kw_getf hB A_make_149 f_A_21 hY.1 rfl ?_
      refine kw_iload_n hB A_make_152 rfl ?_
      refine kw_iconst hB A_make_153 (v := nI 0) (by decide) ?_
      refine kn_iast hB A_make_154 hY.2.2.2.2.2.2.2.2 rfl (by omega) (by decide) ?_
      obtain ⟨z1, z2⟩ := hY.rds (rd' := upd rdh j (nI 0))
      have hRZ : jRv (Y.set 13 (.inl (0, 24, .inl (upd rdh j (nI 0))))) 2 n K0 V A B M L := hRY.fr z2 (fun k hk => by rw [jWk_mem] at hk; omega)
      have hlz := z2.1
      generalize Y.set 13 (.inl (0, 24, .inl (upd rdh j (nI 0)))) = Z at z1 z2 hRZ hlz
      refine kw_aload_n hB A_make_155 rfl ?_
      refine kw_aload_n hB A_make_156 rfl ?_
      refine kw_iload_n hB A_make_157 rfl ?_
      refine kw_callV hB A_make_158 s_A_111 im_A_enter se_A_enter z1.1 rfl rfl (As := [.ref 2, .int (nI j)]) (c_A_enter l D g z1 hRZ hj (Or.inr hk7)) rfl (by decide) (Nat.le_of_ble_eq_true rfl) (by omega) (by omega) (fun r X1 hq hl => ?_)
      obtain ⟨rfl, e1, e2⟩ := hq
      refine kw_goto hB A_make_161 ?_
      refine next _ X1 _ (jGo_7 hk7) ((hf.tr (z2.mono wkm)).tr (e2.mono wkm)) e1 ((hYk.fr z2 wks).fr e2 wks) (fun h h1 h2 => ?_)
      show upd rdh j (nI 0) h = nI (va_up rd j 0 h)
      by_cases hhj : h = j
      · subst hhj; rw [pk_us, jup_self]
      · rw [pk_un hhj, jup_ne hhj]; exact hrd h (by omega) h2
    by_cases hk6 : K0 j = 6
    · rcases hS.2 j hj with ⟨k, -⟩ | ⟨k, -⟩ | ⟨k, h0, t0, e1, e2, e3, e4⟩ | ⟨k, -⟩ | ⟨k, -⟩
      · omega
      · omega
      · have hE := hS.end1 hcl (by omega) e1
        obtain ⟨b1, b2, b3, b4, b5, b6, b7, b8, b9, b10⟩ := hS.top j (by omega) _ _ _ e1
        have hEe : jE K0 M h0 = M j := by unfold jE; rw [e3, if_pos ⟨e2, k⟩]
        rw [hEe] at hE
        obtain ⟨hE1, hE2, hE3, hE4, hE5⟩ := hE
        obtain ⟨m1, m2⟩ := r13 (by omega)
        obtain ⟨-, -, -, -, -, -, -, -, -, -, -, -, x13, -⟩ := hr (M j) m2
        obtain ⟨m3, m4⟩ := x13 (by omega)
        rw [hE3] at m3
        rw [e1] at hI3
        refine kw_tableIn hB A_make_52 (off := 49) (tgt := 101) (by rw [r1, hk6]; decide) (by rw [r1, hk6]; decide) (by rw [r1, hk6]; rfl) rfl ?_
        refine kw_aload_n hB A_make_101 rfl ?_
        refine kw_aload_n hB A_make_102 rfl ?_
        refine kw_aload_n hB A_make_103 rfl ?_
        refine kw_getf hB A_make_104 f_A_115 rY.1 rfl ?_
        refine kw_aload_n hB A_make_107 rfl ?_
        refine kw_getf hB A_make_108 f_A_115 rY.1 rfl ?_
        refine kw_iload_n hB A_make_111 rfl ?_
        refine kn_iald hB A_make_112 rY.2.2.2.2.2.1 rfl (by omega) (by decide) ?_
        rw [m1]
        refine kn_iald hB A_make_113 rY.2.2.2.2.2.1 rfl (by omega) (by decide) ?_
        rw [m3]
        refine kw_callV hB A_make_114 s_A_118 im_A_turn se_A_turn hY.1 rfl rfl (As := [.ref 2, .int (nI h0)]) (c_A_turn l D g (od := jBf bf (L h0)) hY hRY b3 b5 (fun v hv => jis_some (by rw [b6]; exact hI3.1 v hv))) rfl (by decide) (Nat.le_of_ble_eq_true rfl) (by omega) (by omega) (fun r X1 hq hl => ?_)
        obtain ⟨rfl, q1, q2⟩ := hq
        refine kw_goto hB A_make_117 ?_
        exact next _ X1 rdh (jGo_6 hk6 hE3) (hf.tr (q2.mono wkm)) q1 (hYk.fr q2 wks) (rdold (by omega))
      · omega
      · omega
    by_cases hk8 : K0 j = 8
    · rcases hS.2 j hj with ⟨k, -⟩ | ⟨k, -⟩ | ⟨k, -⟩ | ⟨k, h0, p0, t0, e1, e2, e3, e4, e5, e6⟩ | ⟨k, -⟩
      · omega
      · omega
      · omega
      · obtain ⟨b1, b2, b3, b4, b5, b6, b7, b8, b9, b10⟩ := hS.top j (by omega) _ _ _ e1
        obtain ⟨m1, m2⟩ := r13 (by omega)
        rw [e4] at m1 m2
        obtain ⟨-, -, -, -, -, -, -, -, -, -, -, -, x13, -⟩ := hr h0 b3
        obtain ⟨m3, m4⟩ := x13 (by omega)
        rw [e1] at hI3
        have nIe : (mt h0 ≠ nI j) ↔ M h0 ≠ j := by rw [m3, Ne, nI_eq (by omega) (by omega)]
        refine kw_tableIn hB A_make_52 (off := 68) (tgt := 120) (by rw [r1, hk8]; decide) (by rw [r1, hk8]; decide) (by rw [r1, hk8]; rfl) rfl ?_
        refine kw_aload_n hB A_make_120 rfl ?_
        refine kw_iload_n hB A_make_121 rfl ?_
        obtain ⟨kk, hkk⟩ : ∃ kk : Nat, sk0 = nI kk := jI_ex sk0
        obtain ⟨oo, hoo⟩ : ∃ oo : Nat, op = nI oo := jI_ex op
        subst hkk hoo
        refine kw_callV hB A_make_122 s_A_121 im_R_hasOther se_R_hasOther rY.1 rfl rfl (As := [.int (nI j)]) (c_R_hasOther l D g rY (by omega) m1 (by omega)) rfl (by decide) (Nat.le_of_ble_eq_true rfl) (by omega) (by omega) (fun r X1 hq hl => ?_)
        obtain ⟨rfl, hxeq⟩ := hq
        obtain rfl := hxeq.symm
        refine kn_if_ne hB A_make_125 (by cases decide (mt h0 ≠ nI j) <;> decide) (fun hz => ?_) (fun hz => ?_)
        · have hm : M h0 ≠ j := nIe.mp (of_decide_eq_true (jb_t hz))
          have hph : p0 ≠ h0 := fun z => hm (by rw [← z]; exact e3)
          refine kw_aload_n hB A_make_139 rfl ?_
          refine kw_aload_n hB A_make_140 rfl ?_
          refine kw_iload_n hB A_make_141 rfl ?_
          refine kw_callV hB A_make_142 s_A_125 im_A_leaveWhen se_A_leaveWhen hY.1 rfl rfl (As := [.ref 2, .int (nI j)]) (c_A_leaveWhen l D g (og := jBf bg (L j)) hY hRY hj hk8 (fun v hv => jis_some (by rw [e5]; exact hI3.2.1 hph v hv))) rfl (by decide) (Nat.le_of_ble_eq_true rfl) (by omega) (by omega) (fun r X1 hq hl => ?_)
          obtain ⟨rfl, q1, q2⟩ := hq
          refine kw_goto hB A_make_145 ?_
          exact next _ X1 rdh (jGo_8b hk8 e4 hm) (hf.tr (q2.mono wkm)) q1 (hYk.fr q2 wks) (rdold (by omega))
        · have hm : M h0 = j := Classical.byContradiction fun z => by
            have := of_decide_eq_false (jb_f hz)
            exact this (nIe.mpr z)
          refine kw_aload_n hB A_make_128 rfl ?_
          refine kw_aload_n hB A_make_129 rfl ?_
          refine kw_aload_n hB A_make_130 rfl ?_
          refine kw_getf hB A_make_131 f_A_115 rY.1 rfl ?_
          refine kw_iload_n hB A_make_134 rfl ?_
          refine kn_iald hB A_make_135 rY.2.2.2.2.2.1 rfl (by omega) (by decide) ?_
          rw [m1]
          refine kw_callV hB A_make_136 s_A_118 im_A_turn se_A_turn hY.1 rfl rfl (As := [.ref 2, .int (nI h0)]) (c_A_turn l D g (od := jBf bf (L h0)) hY hRY b3 b5 (fun v hv => jis_some (by rw [b6]; exact hI3.1 v hv))) rfl (by decide) (Nat.le_of_ble_eq_true rfl) (by omega) (by omega) (fun r X1 hq hl => ?_)
          obtain ⟨rfl, q1, q2⟩ := hq
          have hRZ : jRv X1 2 n K0 V A B M L := hRY.fr q2 (fun k hk => by rw [jWk_mem] at hk; omega)
          have hlz := q2.1
          refine kw_aload_n hB A_make_139 rfl ?_
          refine kw_aload_n hB A_make_140 rfl ?_
          refine kw_iload_n hB A_make_141 rfl ?_
          refine kw_callV hB A_make_142 s_A_125 im_A_leaveWhen se_A_leaveWhen q1.1 rfl rfl (As := [.ref 2, .int (nI j)]) (c_A_leaveWhen l D g (og := nw) q1 hRZ hj hk8 (fun v hv => by rw [e5, ← b6]; exact jPut_in _ _ hv)) rfl (by decide) (Nat.le_of_ble_eq_true rfl) (by omega) (by omega) (fun r X1 hq hl => ?_)
          obtain ⟨rfl, q3, q4⟩ := hq
          refine kw_goto hB A_make_145 ?_
          exact next _ X1 rdh (jGo_8a hk8 e4 hm) ((hf.tr (q2.mono wkm)).tr (q4.mono wkm)) q3 ((hYk.fr q2 wks).fr q4 wks) (rdold (by omega))
      · omega
    by_cases hk9 : K0 j = 9
    · rcases hS.2 j hj with ⟨k, -⟩ | ⟨k, -⟩ | ⟨k, -⟩ | ⟨k, -⟩ | ⟨k, h0, t0, e1, e2, e3, e4, e5, e6⟩
      · omega
      · omega
      · omega
      · omega
      · obtain ⟨b1, b2, b3, b4, b5, b6, b7, b8, b9, b10⟩ := hS.top j (by omega) _ _ _ e1
        rw [e1] at hI3
        have hrh := hrd h0 (by omega) e2
        have hrl := hrdle h0
        refine kw_tableIn hB A_make_52 (off := 112) (tgt := 164) (by rw [r1, hk9]; decide) (by rw [r1, hk9]; decide) (by rw [r1, hk9]; rfl) rfl ?_
        refine kw_aload_n hB A_make_164 rfl ?_
        refine kw_aload_n hB A_make_165 rfl ?_
        refine kw_iload_n hB A_make_166 rfl ?_
        refine kw_callV hB A_make_167 s_A_128 im_A_closeRound se_A_closeRound hY.1 rfl rfl (As := [.ref 2, .int (nI j)]) (c_A_closeRound l D g (R := rd h0) (hl0 := jBf bf (L h0)) hY hRY hj hk9 (by rw [e4]; exact e2) (by rw [e4]; exact hrh) (by omega) (fun v hv => by rw [e4]; exact jis_some (by rw [b6]; exact hI3.1 v hv))) rfl (by decide) (Nat.le_of_ble_eq_true rfl) (by omega) (by omega) (fun r X1 hq hl => ?_)
        obtain ⟨rfl, q1, q2⟩ := hq
        rw [e4] at q1 ⊢
        refine kw_istore hB A_make_170 (by decide) rfl ?_
        refine kw_goto hB A_make_172 ?_
        refine next _ X1 _ (jGo_9 hk9 e4) (hf.tr (q2.mono wkm)) q1 (hYk.fr q2 wks) (fun h h1 h2 => ?_)
        show upd rdh h0 (nI (rd h0 + 1)) h = nI (va_up rd h0 (rd h0 + 1) h)
        by_cases hhj : h = h0
        · subst hhj; rw [pk_us, jup_self]
        · rw [pk_un hhj, jup_ne hhj]; exact rdold (by omega) h h1 h2
    have hk3 : K0 j < 4 := by omega
    refine kw_tableOut hB A_make_52 (tgt := 203) (by rw [r1]; exact jtout hk3) rfl ?_
    refine kw_aload_n hB A_make_203 rfl ?_
    refine kw_aload_n hB A_make_204 rfl ?_
    refine kw_iload_n hB A_make_205 rfl ?_
    refine kw_callV hB A_make_206 s_A_142 im_A_change se_A_change hY.1 rfl rfl (As := [.ref 2, .int (nI j)]) (c_A_change l D g hY.1 hY.2.1 hY.2.2.1 hY.2.2.2.2.2.1 hRY hj hk3) rfl (by decide) (Nat.le_of_ble_eq_true rfl) (by omega) (by omega) (fun r X1 hq hl => ?_)
    obtain ⟨rfl, q1, q2, q3⟩ := hq
    have hm : ∀ k ∈ jNs ++ jZs, (27 ≤ k ∧ k < 58) ∨ (70 ≤ k ∧ k < 80) := fun k hk => by rw [List.mem_append, jNs_mem, jZs_mem] at hk; omega
    exact next _ X1 rdh (jGo_0 hk3) (hf.tr (q3.mono (fun k hk => by have := hm k hk; rw [jMl_mem]; omega))) (hY.now q3 hm q2 q1) (hYk.fr q3 (fun k hk => by have := hm k hk; omega)) (rdold (by omega))
theorem jWv.cong {X : ja_H} {c : Nat} {wt wt' : Nat → Option (List Nat)} (h : jWv X c wt) (he : ∀ k, k < c → wt k = wt' k) : jWv X c wt' := by
  obtain ⟨f, wl, w1, w2, w3, w4⟩ := h
  exact ⟨f, wl, w1, w2, w3, fun k hk => by obtain ⟨row, r1, r2⟩ := w4 k hk; exact ⟨row, r1, fun z => by rw [← he k z]; exact r2 z⟩⟩
/-- the language of a sink -/
noncomputable def jSn (s : jSt) (k : Nat) : jLan := (s.2.2.2.2.2 k).getD jEmp
set_option maxHeartbeats 8000000 in
set_option maxRecDepth 100000 in
theorem c_A_make {n s o : Nat} {md un : Int32} {rd : Nat → Int32} {K0 V A B M L : Nat → Nat} {σ : Nat → List (Nat × Nat)} {sk0 : Nat → Option jLan} {wt0 : Nat → Option (List Nat)} {kd vr fs sc mt lv pt hd : Nat → Int32} (h : jA0 X md un rd) (hK0 : jSk X sk0) (hA : jLv X 25 4 14 jatx) (hW : jWv X 0 wt0) (hR : jRv X 2 n K0 V A B M L) (r : jRr X 2 kd vr fs sc mt lv (nI n) (nI s) (nI o) pt hd) (hS : jSs n K0 M L σ) (hcl : σ n = []) (hs6 : s ≤ 6) (hsi : ∀ k, k < s → ∃ j, j < n ∧ K0 j = 4 ∧ A j = k) :
    AMet l D g 6 0 0 m_A_make [.ref 11, .ref 2] X (fun r X' => r = none ∧ (∃ rd', jA0 X' (nI 1) (nI (jUn (fun k => jWt (jSn (jFin n K0 V A B M L) k)) s)) rd' ∧ ∀ i, i < n → K0 i = 7 → rd' i = nI ((jFin n K0 V A B M L).2.1 i)) ∧ jSk X' (jFin n K0 V A B M L).2.2.2.2.2 ∧ jWv X' s (fun k => jWt (jSn (jFin n K0 V A B M L) k)) ∧ jfr jMs X X') := by
  have hR0 := hR
  obtain ⟨_, _, _, _, _, _, _, _, _, _, _, hn, hr⟩ := hR
  have hKK : ∀ i, i < n → K0 i < 10 := fun i hi => (hr i hi).2.2.2.2.1
  have hV : ∀ i, i < n → V i < 5 := fun i hi => (hr i hi).2.2.2.2.2.1
  obtain ⟨hFI, -⟩ := jFin_n hS hcl hKK hV (A := A) (B := B) hn
  have hsk : ∀ k, k < s → (jFin n K0 V A B M L).2.2.2.2.2 k = some (jSn (jFin n K0 V A B M L) k) := fun k hk => by
    obtain ⟨j, j1, j2, j3⟩ := hsi k hk
    have := hFI.2.2.2.2.2.2.2.2 j j1 j2
    rw [j3] at this
    unfold jSn
    cases hb : (jFin n K0 V A B M L).2.2.2.2.2 k with
    | none => rw [hb] at this; cases this
    | some L' => rfl
  refine ja_metK (by decide) rfl (Nat.le_of_ble_eq_true rfl) fun K hB hF => ?_
  have fin : ∀ (Y : ja_H) (rdh : Nat → Int32) (i : Nat) (u : Value), jfr jMl X Y → jAS Y md un rdh (jFin n K0 V A B M L).2.2.1 (jFin n K0 V A B M L).2.2.2.1 (jFin n K0 V A B M L).2.2.2.2.1 → jSk Y (jFin n K0 V A B M L).2.2.2.2.2 → (∀ h, h < n → K0 h = 7 → rdh h = nI ((jFin n K0 V A B M L).2.1 h)) → K 218 [.ref 11, .ref 2, .int (nI n), .int (nI i), u] [] Y 0 0 := by
    intro Y rdh i u hf hY hYk hrd
    generalize jFin n K0 V A B M L = F at hsk hY hYk hrd hF hFI
    have hle := hf.1
    have rY : jRr Y 2 _ _ _ _ _ _ _ _ _ _ _ := r.fr hf (fun k hk => by rw [jMl_mem] at hk; omega)
    refine kw_aload_n hB A_make_218 rfl ?_
    refine kw_aload_n hB A_make_219 rfl ?_
    refine kw_getf hB A_make_220 f_A_145 rY.1 rfl ?_
    refine kw_callV hB A_make_223 s_A_147 im_A_findWitnesses se_A_findWitnesses hY.1 rfl rfl (As := [.int (nI s)]) (c_A_findWitnesses l D g (Lk := jSn F) hY.1 hY.2.1 hYk hsk (hA.fr hf (by rw [jMl_mem]; omega) (by rw [jMl_mem]; omega)) (hW.fr hf (fun k hk => by rw [jMl_mem] at hk; omega)) hs6) rfl (by decide) (Nat.le_of_ble_eq_true rfl) (by omega) (by omega) (fun r X1 hq hl => ?_)
    obtain ⟨rfl, q1, q2, q3, q4⟩ := hq
    have hl4 := q4.1
    refine kw_aload_n hB A_make_226 rfl ?_
    refine kw_iconst hB A_make_227 (v := nI 1) (by decide) ?_
    refine kw_putf hB A_make_228 f_A_95 jc_A jw_A_2 q1 (Nat.le_of_ble_eq_true rfl) rfl rfl ?_
    have h11 : 11 < X1.length := (List.getElem?_eq_some_iff.mp q1).1
    have hf5 := jset_fr X1 11 (.inr (7, [.ref 12, .ref 13, .int (nI 1), .int (nI (jUn (fun k => jWt (jSn F k)) s)), .ref 14, .ref 21, .ref 22, .ref 23, .ref 24, .ref 25, .ref 27, .ref 29, .ref 31, .ref 40, .ref 45, .ref 50, .ref 53]))
    have m11 : ∀ k ∈ [11], k = 11 := fun k hk => List.mem_singleton.mp hk
    have n11 : ∀ k, k ≠ 11 → k ∉ [11] := fun k hk z => hk (List.mem_singleton.mp z)
    refine kw_vret hF rfl A_make_231 ?_ (by simp; omega)
    have nof : ∀ k, k < 11 ∨ k = 12 ∨ k = 13 ∨ (22 ≤ k ∧ k < 27) ∨ 58 ≤ k → k ∉ jFs := fun k hk z => by rw [jFs_mem] at z; omega
    obtain ⟨a1, a2, a3, a4, a5, a6, a7, a8, a9⟩ := hY.zero
    refine ⟨rfl, ⟨rdh, ⟨List.getElem?_set_self h11, q2.fr hf5 (fun k hk => by have := m11 k hk; omega), (a3.fr q4 (nof _ (by omega))).fr hf5 (n11 _ (by omega)), (a4.fr q4 (nof _ (by omega))).fr hf5 (n11 _ (by omega)), (a5.fr q4 (nof _ (by omega))).fr hf5 (n11 _ (by omega)), fun v hv => ((a6 v hv).fr q4 (nof _ (by omega)) (nof _ (by omega))).fr hf5 (n11 _ (by omega)) (n11 _ (by omega)), fun v hv => ((a7 v hv).fr q4 (nof _ (by omega)) (nof _ (by omega))).fr hf5 (n11 _ (by omega)) (n11 _ (by omega)), fun v hv => ((a8 v hv).fr q4 (nof _ (by omega)) (nof _ (by omega))).fr hf5 (n11 _ (by omega)) (n11 _ (by omega)), hf5.at (n11 _ (by omega)) (q4.at (nof _ (by omega)) a9)⟩, hrd⟩, (hYk.fr q4 (fun k hk => by rw [jFs_mem] at hk; omega)).fr hf5 (fun k hk => by have := m11 k hk; omega), q3.fr hf5 (fun k hk => by have := m11 k hk; omega), ?_⟩
    exact ((hf.mono (fun k hk => by rw [jMl_mem] at hk; rw [jMs_mem]; omega)).tr (q4.mono (fun k hk => by rw [jFs_mem] at hk; rw [jMs_mem]; omega))).tr (hf5.mono (fun k hk => by have := m11 k hk; rw [jMs_mem]; omega))
  have main := c_A_makeLoop l D g hB hR0 hS hcl fin
  have hph := jS0_ph (K := K0) (M := M) hS hn
  -- the first words
  have first : ∀ m v (Y : ja_H) (u w : Value), v + m = 5 → jfr jMl X Y → jA0 Y md un rd → (∀ v', v' < v → jVal Y (70 + 2 * v') jEps) → jSk Y sk0 → K 2 [.ref 11, .ref 2, .int (nI v), u, w] [] Y 0 0 := by
    intro m
    induction m with
    | zero =>
      intro v Y u w hv hf hY hv1 hYk
      refine kw_iload_n hB A_make_2 rfl ?_
      refine kw_iconst hB A_make_3 (v := nI 5) (by decide) ?_
      refine kn_icmp_ge hB A_make_4 (by omega) (by decide) (fun hc => ?_) (fun hc => absurd hc (by omega))
      refine kw_iconst hB A_make_23 (v := nI 0) (by decide) ?_
      refine kw_istore_n hB A_make_24 rfl (by decide) rfl ?_
      refine kw_iconst hB A_make_25 (v := nI 0) (by decide) ?_
      refine kw_istore_n hB A_make_26 rfl (by decide) rfl ?_
      obtain ⟨a1, a2, a3, a4, a5, a6, a7, a8, a9⟩ := hY
      refine main 8999999 0 jS0 0 Y rd _ (by omega) (by omega) rfl (jS0_inv hS) hf ⟨a1, a2, a3, a4, a5, fun v' hv' => hv1 v' (by omega), fun i hi => ⟨a7 i hi, fun L' e => (by cases e)⟩, fun i hi => ⟨a8 i hi, fun L' e => (by cases e)⟩, a9⟩ ⟨hYk.1, fun i hi => ⟨(hYk.2 i hi).1, fun L' e => (by cases e)⟩⟩ (fun h' hh => absurd hh (by omega))
    | succ m ih =>
      intro v Y u w hv hf hY hv1 hYk
      have hY0 := hY
      obtain ⟨a1, a2, a3, a4, a5, a6, a7, a8, a9⟩ := hY
      obtain ⟨fa, f1, f2⟩ := a3
      have hx := a6 v (by omega)
      have hle := hf.1
      refine kw_iload_n hB A_make_2 rfl ?_
      refine kw_iconst hB A_make_3 (v := nI 5) (by decide) ?_
      refine kn_icmp_ge hB A_make_4 (by omega) (by decide) (fun hc => absurd hc (by omega)) (fun hc => ?_)
      refine kw_aload_n hB A_make_7 rfl ?_
      refine kw_getf hB A_make_8 f_A_33 a1 rfl ?_
      refine kw_iload_n hB A_make_11 rfl ?_
      refine kn_aald hB A_make_12 f1 rfl rfl (by omega) (by decide) (f2 _ (by omega)) ?_
      refine kw_lconst hB A_make_13 (v := 0) (by decide) ?_
      refine kw_callV hB A_make_14 s_A_99 im_L_becomeWord se_L_becomeWord hx.choose_spec.choose_spec.choose_spec.1 rfl rfl (As := [.long (lN 0)]) (w_L_becomeWord l D g (w := 0) hx (by decide) (fun i hi => absurd hi (by rw [jlen_0]; omega))) rfl (by decide) (Nat.le_of_ble_eq_true rfl) (by omega) (by omega) (fun r X1 hq hl => ?_)
      obtain ⟨rfl, e1, e2⟩ := hq
      refine kn_iinc hB A_make_17 rfl (by decide) rfl ?_
      refine kw_goto hB A_make_20 ?_
      have mm : ∀ k ∈ [70 + 2 * v, 70 + 2 * v + 1], k = 70 + 2 * v ∨ k = 70 + 2 * v + 1 := fun k hk => by simpa using hk
      have nn : ∀ k, k ≠ 70 + 2 * v → k ≠ 70 + 2 * v + 1 → k ∉ [70 + 2 * v, 70 + 2 * v + 1] := fun k h1 h2 z => by have := mm k z; omega
      refine ih (v + 1) X1 _ _ (by omega) (hf.tr (e2.mono (fun k hk => by have := mm k hk; rw [jMl_mem]; omega))) ⟨e2.at (nn _ (by omega) (by omega)) a1, a2.fr e2 (fun k hk => by have := mm k hk; omega), ⟨fa, e2.at (nn _ (by omega) (by omega)) f1, f2⟩, a4.fr e2 (nn _ (by omega) (by omega)), a5.fr e2 (nn _ (by omega) (by omega)), fun v' hv' => ?_, fun i hi => (a7 i hi).fr e2 (nn _ (by omega) (by omega)) (nn _ (by omega) (by omega)), fun i hi => (a8 i hi).fr e2 (nn _ (by omega) (by omega)) (nn _ (by omega) (by omega)), e2.at (nn _ (by omega) (by omega)) a9⟩ (fun v' hv' => ?_) (hYk.fr e2 (fun k hk => by have := mm k hk; omega))
      · by_cases hvv : v' = v
        · subst hvv; exact e1.x
        · exact (a6 v' hv').fr e2 (nn _ (by omega) (by omega)) (nn _ (by omega) (by omega))
      · by_cases hvv : v' = v
        · subst hvv; exact e1
        · exact (hv1 v' (by omega)).fr e2 (nn _ (by omega) (by omega)) (nn _ (by omega) (by omega))
  refine kw_iconst hB A_make_0 (v := nI 0) (by decide) ?_
  refine kw_istore_n hB A_make_1 rfl (by decide) rfl ?_
  exact first 5 0 X _ _ (by omega) (jfr.rf _ _) h (fun v' hv' => absurd hv' (by omega)) hK0
end JMA
