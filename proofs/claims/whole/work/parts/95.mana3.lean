-- the model: endOfWhen, endOfLoop, go
/-- the slots hold an analysis's state -/
def jFs' (f : Nat → Option jLan) (nw : Nat → jLan) (bf bg sk : Nat → Option jLan) : Prop := (∀ v, v < 5 → f v = some (nw v)) ∧ (∀ d v L, d < 3 → v < 5 → bf (d * 5 + v) = some L → f (5 + 10 * d + v) = some L) ∧ (∀ d v L, d < 3 → v < 5 → bg (d * 5 + v) = some L → f (10 + 10 * d + v) = some L) ∧ ∀ k L, k < 6 → sk k = some L → f (35 + k) = some L
section JFS
variable {f f' : Nat → Option jLan} {nw nw' N : Nat → jLan} {bf bg sk : Nat → Option jLan} {d : Nat}
theorem jFs'.n (h : jFs' f nw bf bg sk) (h1 : ∀ v, v < 5 → f' v = some (nw' v)) (h2 : ∀ c, 5 ≤ c → c ≠ 41 → c ≠ 42 → f' c = f c) : jFs' f' nw' bf bg sk :=
  ⟨h1, fun e v L he hv hb => by rw [h2 _ (by omega) (by omega) (by omega)]; exact h.2.1 e v L he hv hb, fun e v L he hv hb => by rw [h2 _ (by omega) (by omega) (by omega)]; exact h.2.2.1 e v L he hv hb, fun k L hk hb => by rw [h2 _ (by omega) (by omega) (by omega)]; exact h.2.2.2 k L hk hb⟩
theorem jFs'.b (h : jFs' f nw bf bg sk) (hd : d < 3) (h1 : ∀ v, v < 5 → f' (5 + 10 * d + v) = some (N v)) (h2 : ∀ c, c < 5 + 10 * d ∨ 5 + 10 * d + 5 ≤ c → f' c = f c) : jFs' f' nw (jPut bf (d * 5) 5 N) bg sk :=
  ⟨fun v hv => by rw [h2 _ (by omega)]; exact h.1 v hv, fun e v L he hv hb => by
    by_cases z : e = d
    · subst z; rw [jPut_in _ _ hv] at hb; rw [h1 v hv]; exact hb
    · rw [h2 _ (by omega)]
      unfold jPut at hb
      rw [if_neg (by omega)] at hb
      exact h.2.1 e v L he hv hb, fun e v L he hv hb => by rw [h2 _ (by omega)]; exact h.2.2.1 e v L he hv hb, fun k L hk hb => by rw [h2 _ (by omega)]; exact h.2.2.2 k L hk hb⟩
theorem jFs'.g (h : jFs' f nw bf bg sk) (hd : d < 3) (h1 : ∀ v, v < 5 → f' (10 + 10 * d + v) = some (N v)) (h2 : ∀ c, c < 10 + 10 * d ∨ 10 + 10 * d + 5 ≤ c → f' c = f c) : jFs' f' nw bf (jPut bg (d * 5) 5 N) sk :=
  ⟨fun v hv => by rw [h2 _ (by omega)]; exact h.1 v hv, fun e v L he hv hb => by rw [h2 _ (by omega)]; exact h.2.1 e v L he hv hb, fun e v L he hv hb => by
    by_cases z : e = d
    · subst z; rw [jPut_in _ _ hv] at hb; rw [h1 v hv]; exact hb
    · rw [h2 _ (by omega)]
      unfold jPut at hb
      rw [if_neg (by omega)] at hb
      exact h.2.2.1 e v L he hv hb, fun k L hk hb => by rw [h2 _ (by omega)]; exact h.2.2.2 k L hk hb⟩
end JFS
def jGs : List Nat := [145, 155, 156, 157, 158, 159, 160, 161, 162, 163, 164, 165]
theorem jGs_mem {k : Nat} : k ∈ jGs ↔ k = 145 ∨ (155 ≤ k ∧ k ≤ 165) := by
  simp only [jGs, List.mem_cons, List.not_mem_nil, or_false]
  omega
theorem jmk_gs {X Y : ja_H} (h : jfr jMks X Y) : jfr jGs X Y := h.mono (fun k hk => by rw [jMks_mem] at hk; rw [jGs_mem]; omega)
/-- the rounds of the open loops, and of those that are passed -/
def jRo (σ : Nat → List (Nat × Nat)) (K : Nat → Nat) (i hw : Nat) (rd : Nat → Nat) (md rn : Nat → Int32) : Prop := (∀ a h p t, σ i = a ++ (h, p) :: t → K h = 7 → rn t.length = nI (rd h + 1)) ∧ ∀ h, h < hw → K h = 7 → (∀ x ∈ σ i, x.1 ≠ h) → md h = nI (rd h)
theorem jDn_t {nw hl : Nat → jLan} : ∀ k, jDn nw hl k = true → ∀ v, v < k → jUni (nw v) (hl v) = hl v
  | 0, _, v, hv => absurd hv (by omega)
  | k + 1, h, v, hv => by
    rw [jDn] at h
    obtain ⟨h1, h2⟩ := Bool.and_eq_true_iff.mp h
    by_cases z : v = k
    · subst z; exact of_decide_eq_true h2
    · exact jDn_t k h1 v (by omega)
section JMA3
variable (l : Launch) (D : va_G) (g : Nat × Nat) {X : ja_H} {s : Nat → Int32} {f : Nat → Option jLan} {n : Nat} {K V A B M L : Nat → Nat} {nw : Nat → jLan} {bf bg sk : Nat → Option jLan}
set_option maxHeartbeats 8000000 in
set_option maxRecDepth 100000 in
theorem c_M_endOfWhen {i h0 : Nat} (h : jMe X s f) (hq : jMq X n K V A B M L) (hi : i < n) (hk8 : K i = 8) (hM : M i = h0) (hMl : M h0 < 2 ^ 31) (hh : h0 < n) (hk5 : K h0 = 5) (hL : L h0 < 3) (hln : jLn (K h0) (V h0) (A h0) (B h0)) (hF0 : jFs' f nw bf bg sk) (ab : ∀ d, jAon (jBf bf d)) (sb : ∀ v, v < 5 → (bf (L h0 * 5 + v)).isSome = true) (sg : M h0 ≠ i → ∀ v, v < 5 → (bg (L h0 * 5 + v)).isSome = true) :
    AMet l D g 8 0 0 m_M_endOfWhen [.ref 145, .int (nI i)] X (fun r X' => r = some (.int (nI (i + 1))) ∧ ∃ s' f', jMe X' s' f' ∧ (if M h0 = i then jFs' f' (fun v => jUni (jKp (jBf bf (L h0)) (V h0) (A h0) (B h0) false v) (nw v)) bf (jPut bg (L h0 * 5) 5 nw) sk else jFs' f' (fun v => jUni (nw v) (jBf bg (L h0) v)) bf bg sk) ∧ jKs s s' ∧ jfr jMks X X') := by
  have hq0 := hq
  obtain ⟨wh, on, tw, th, dp, bgn, ol, el, bk, hp, hn24, hl⟩ := hq
  obtain ⟨-, -, -, -, -, -, -, l8, l9, -⟩ := hl i hi
  obtain ⟨-, -, -, -, -, d6, -, -, -, -⟩ := hl h0 hh
  have eb := (l8 (by omega)).1
  have eo := l9 hk8
  rw [hM] at eb eo
  have ed := d6 (Or.inl hk5)
  refine ja_metK (by decide) rfl (Nat.le_of_ble_eq_true rfl) fun K9 hB hF => ?_
  -- the uniting
  have un : ∀ (Y : ja_H) (s1 : Nat → Int32) (f1 : Nat → Option jLan) (N1 H1 : Nat → jLan) (bg1 : Nat → Option jLan), jMe Y s1 f1 → jFs' f1 N1 bf bg1 sk → (∀ v, v < 5 → bg1 (L h0 * 5 + v) = some (H1 v)) → jKs s s1 → jfr jMks X Y → (∀ (Z : ja_H) (s2 : Nat → Int32) (f2 : Nat → Option jLan), jMe Z s2 f2 → jFs' f2 (fun v => jUni (N1 v) (H1 v)) bf bg1 sk → jKs s s2 → jfr jMks X Z → K9 55 [.ref 145, .int (nI i), .int (nI h0), .int (nI (5 + 10 * L h0))] [] Z 0 0) → K9 48 [.ref 145, .int (nI i), .int (nI h0), .int (nI (5 + 10 * L h0))] [] Y 0 0 := by
    intro Y s1 f1 N1 H1 bg1 e1 e2 e3 ks hf kk
    have hl0 := hf.1
    refine kw_aload_n hB M_endOfWhen_48 rfl ?_
    refine kw_iload_n hB M_endOfWhen_49 rfl ?_
    refine kw_iconst hB M_endOfWhen_50 (v := nI 5) (by decide) ?_
    refine kn_iadd hB M_endOfWhen_51 ?_
    refine kw_callV hB M_endOfWhen_52 s_M_235 im_M_unite se_M_unite e1.c rfl rfl (As := [.int (nI (5 + 10 * L h0 + 5))]) (w_M_unite l D g (N := N1) (H := H1) e1 (by omega) (by omega) e2.1 (fun v hv => by rw [show 5 + 10 * L h0 + 5 + v = 10 + 10 * L h0 + v by omega]; exact e2.2.2.1 (L h0) v _ hL hv (e3 v hv))) rfl (by decide) (Nat.le_of_ble_eq_true rfl) (by omega) (by omega) (fun r X1 hq hl => ?_)
    obtain ⟨rfl, s2, f2, q1, q2, q3, q4, q5⟩ := hq
    exact kk X1 s2 f2 q1 (e2.n q2 (fun c c1 c2 _ => q3 c c1 c2)) (ks.tr q4) (hf.tr q5)
  refine kw_aload_n hB M_endOfWhen_0 rfl ?_
  refine kw_getf hB M_endOfWhen_1 f_M_25 h.c rfl ?_
  refine kw_iload_n hB M_endOfWhen_4 rfl ?_
  refine kn_iald hB M_endOfWhen_5 hp.2.2.2.2.2.1 rfl (by omega) (by decide) ?_
  rw [eb]
  refine kw_istore_n hB M_endOfWhen_6 rfl (by decide) rfl ?_
  refine kw_iconst hB M_endOfWhen_7 (v := nI 5) (by decide) ?_
  refine kw_bipush hB M_endOfWhen_8 (v := nI 10) (by decide) ?_
  refine kw_aload_n hB M_endOfWhen_10 rfl ?_
  refine kw_getf hB M_endOfWhen_11 f_M_22 h.c rfl ?_
  refine kw_iload_n hB M_endOfWhen_14 rfl ?_
  refine kn_iald hB M_endOfWhen_15 hp.2.2.2.2.1 rfl (by omega) (by decide) ?_
  rw [ed]
  refine kn_imul hB M_endOfWhen_16 ?_
  refine kn_iadd hB M_endOfWhen_17 ?_
  refine kw_istore_n hB M_endOfWhen_18 rfl (by decide) rfl ?_
  refine kw_aload_n hB M_endOfWhen_19 rfl ?_
  refine kw_getf hB M_endOfWhen_20 f_M_28 h.c rfl ?_
  refine kw_iload_n hB M_endOfWhen_23 rfl ?_
  refine kn_iald hB M_endOfWhen_24 hp.2.2.2.2.2.2.1 rfl (by omega) (by decide) ?_
  rw [eo]
  by_cases hm : M h0 = i
  · rw [if_pos hm]
    refine kw_if_ge hB M_endOfWhen_25 (fun z => absurd z (by decide)) (fun _ => ?_)
    refine kw_aload_n hB M_endOfWhen_28 rfl ?_
    refine kw_iconst hB M_endOfWhen_29 (v := nI 0) (by decide) ?_
    refine kw_iload_n hB M_endOfWhen_30 rfl ?_
    refine kw_iconst hB M_endOfWhen_31 (v := nI 5) (by decide) ?_
    refine kn_iadd hB M_endOfWhen_32 ?_
    refine kw_callV hB M_endOfWhen_33 s_M_228 im_M_copySet se_M_copySet h.c rfl rfl (As := [.int (nI 0), .int (nI (5 + 10 * L h0 + 5))]) (w_M_copySet l D g (a := 0) (b := 5 + 10 * L h0 + 5) (N := nw) h (by decide) (by omega) (Or.inl (by omega)) (fun v hv => by rw [Nat.zero_add]; exact hF0.1 v hv)) rfl (by decide) (Nat.le_of_ble_eq_true rfl) (by omega) (by omega) (fun r X1 hq hl => ?_)
    obtain ⟨rfl, f1, h1, q1, q2, g1⟩ := hq
    have hl1 := g1.1
    have F1 : jFs' f1 nw bf (jPut bg (L h0 * 5) 5 nw) sk := hF0.g hL (fun v hv => by rw [show 10 + 10 * L h0 + v = 5 + 10 * L h0 + 5 + v by omega]; exact q1 v hv) (fun c hc => q2 c (by omega))
    refine kw_aload_n hB M_endOfWhen_36 rfl ?_
    refine kw_iload_n hB M_endOfWhen_37 rfl ?_
    refine kw_iconst hB M_endOfWhen_38 (v := nI 0) (by decide) ?_
    refine kw_callV hB M_endOfWhen_39 s_M_228 im_M_copySet se_M_copySet h1.c rfl rfl (As := [.int (nI (5 + 10 * L h0)), .int (nI 0)]) (w_M_copySet l D g (a := 5 + 10 * L h0) (b := 0) (N := jBf bf (L h0)) h1 (by omega) (by decide) (Or.inr (by omega)) (fun v hv => F1.2.1 (L h0) v _ hL hv (jis_some (sb v hv)))) rfl (by decide) (Nat.le_of_ble_eq_true rfl) (by omega) (by omega) (fun r X1 hq hl => ?_)
    obtain ⟨rfl, f2, h2, q3, q4, g2⟩ := hq
    have g12 := g1.tr g2
    have hl2 := g12.1
    have F2 : jFs' f2 (jBf bf (L h0)) bf (jPut bg (L h0 * 5) 5 nw) sk := F1.n (fun v hv => by have := q3 v hv; rw [Nat.zero_add] at this; exact this) (fun c c1 _ _ => q4 c (by omega))
    refine kw_aload_n hB M_endOfWhen_42 rfl ?_
    refine kw_iload_n hB M_endOfWhen_43 rfl ?_
    refine kw_iconst hB M_endOfWhen_44 (v := nI 1) (by decide) ?_
    refine kw_callV hB M_endOfWhen_45 s_M_231 im_M_keep se_M_keep h2.c rfl rfl (As := [.int (nI h0), .int (nI true.toNat)]) (c_M_keep l D g (b := true) h2 (hq0.fr g12 jmk_lo) hh hln (Or.inl hk5) F2.1 (ab _)) rfl (by decide) (Nat.le_of_ble_eq_true rfl) (by omega) (by omega) (fun r X1 hq hl => ?_)
    obtain ⟨rfl, s3, f3, h3, q5, q6, ks3, g3⟩ := hq
    have F3 := F2.n q5 q6
    refine un X1 s3 f3 _ nw _ h3 F3 (fun v hv => jPut_in _ _ hv) ks3 (g12.tr g3) (fun Z s4 f4 e1 e2 ks e3 => ?_)
    refine kw_iload_n hB M_endOfWhen_55 rfl ?_
    refine kw_iconst hB M_endOfWhen_56 (v := nI 1) (by decide) ?_
    refine kn_iadd hB M_endOfWhen_57 ?_
    refine kw_iret hF rfl M_endOfWhen_58 ⟨rfl, s4, f4, e1, (by rw [if_pos hm]; exact e2), ks, e3⟩ e3.1
  · rw [if_neg hm]
    refine kw_if_ge hB M_endOfWhen_25 (fun _ => ?_) (fun z => absurd (Int32.not_lt.mp (nI_pos hMl)) z)
    refine un X s f nw (jBf bg (L h0)) bg h hF0 (fun v hv => jis_some (sg hm v hv)) (jKs.rf s) (jfr.rf _ _) (fun Z s4 f4 e1 e2 ks e3 => ?_)
    refine kw_iload_n hB M_endOfWhen_55 rfl ?_
    refine kw_iconst hB M_endOfWhen_56 (v := nI 1) (by decide) ?_
    refine kn_iadd hB M_endOfWhen_57 ?_
    refine kw_iret hF rfl M_endOfWhen_58 ⟨rfl, s4, f4, e1, (by rw [if_neg hm]; exact e2), ks, e3⟩ e3.1
set_option maxHeartbeats 16000000 in
set_option maxRecDepth 100000 in
theorem c_M_endOfLoop {i h0 R : Nat} {md rn : Nat → Int32} (h : jMe X s f) (hq : jMq X n K V A B M L) (hi : i < n) (hk9 : K i = 9) (hM : M i = h0) (hh : h0 < n) (hk7 : K h0 = 7) (hL : L h0 < 3) (hln : jLn (K h0) (V h0) (A h0) (B h0)) (hF0 : jFs' f nw bf bg sk) (an : jAon nw) (ab : jAon (jBf bf (L h0))) (on : ∀ v, v < 5 → jOk (nw v)) (ob : ∀ v, v < 5 → jOk (jBf bf (L h0) v)) (sb : ∀ v, v < 5 → (bf (L h0 * 5 + v)).isSome = true) (hmd : X[158]? = some (.inl (0, 24, .inl md))) (hrn : X[159]? = some (.inl (0, 3, .inl rn))) (hR : rn (L h0) = nI (R + 1)) (hR31 : R + 2 < 2 ^ 31) :
    AMet l D g 9 0 0 m_M_endOfLoop [.ref 145, .int (nI i)] X (fun r X' => r = some (.int (nI (if jDn nw (jBf bf (L h0)) 5 then i + 1 else h0 + 1))) ∧ ∃ s' f' rn', jMe X' s' f' ∧ jFs' f' (jKp (fun v => jCr1 (decide (3 ≤ R + 1)) (nw v) (jBf bf (L h0) v)) (V h0) (A h0) (B h0) (!jDn nw (jBf bf (L h0)) 5)) (jPut bf (L h0 * 5) 5 (fun v => jCr1 (decide (3 ≤ R + 1)) (nw v) (jBf bf (L h0) v))) bg sk ∧ jKs s s' ∧ X'[158]? = some (.inl (0, 24, .inl (upd md h0 (nI (R + 1))))) ∧ X'[159]? = some (.inl (0, 3, .inl rn')) ∧ (∀ d, d ≠ L h0 → rn' d = rn d) ∧ (jDn nw (jBf bf (L h0)) 5 = false → rn' (L h0) = nI (R + 2)) ∧ jfr jGs X X') := by
  have hq0 := hq
  obtain ⟨wh, on', tw, th, dp, bgn, ol, el, bk, hp, hn24, hl⟩ := hq
  obtain ⟨-, -, -, -, -, -, -, l8, -, -⟩ := hl i hi
  obtain ⟨-, -, -, -, -, d6, -, -, -, -⟩ := hl h0 hh
  have eb := (l8 (by omega)).1
  rw [hM] at eb
  have ed := d6 (Or.inr hk7)
  have nm : ∀ k, k = 158 ∨ k = 159 → k ∉ jMks := fun k hk z => by rw [jMks_mem] at z; omega
  refine ja_metK (by decide) rfl (Nat.le_of_ble_eq_true rfl) fun K9 hB hF => ?_
  have cr : ∀ v, v < 5 → jUni (nw v) (jBf bf (L h0) v) = jBf bf (L h0) v → jCr1 (decide (3 ≤ R + 1)) (nw v) (jBf bf (L h0) v) = jBf bf (L h0) v := fun v _ z => by unfold jCr1; rw [if_pos z]
  -- behind the variables
  have b99 : ∀ (Y : ja_H) (s1 : Nat → Int32) (f1 : Nat → Option jLan) (u w : Value), jMe Y s1 f1 → jFs' f1 (fun v => jCr1 (decide (3 ≤ R + 1)) (nw v) (jBf bf (L h0) v)) bf bg sk → jKs s s1 → jfr jMks X Y → K9 99 [.ref 145, .int (nI i), .int (nI h0), .int (nI (5 + 10 * L h0)), .int (nI (jDn nw (jBf bf (L h0)) 5).toNat), u, w] [] Y 0 0 := by
    intro Y s1 f1 u w e1 e2 ks hf
    have py := hp.fr hf jmk_lo
    have m1 := hf.at (nm 158 (Or.inl rfl)) hmd
    have r1 := hf.at (nm 159 (Or.inr rfl)) hrn
    have acr := jCr1_aon (w := decide (3 ≤ R + 1)) an ab on ob
    refine kw_aload_n hB M_endOfLoop_99 rfl ?_
    refine kw_getf hB M_endOfLoop_100 f_M_47 e1.c rfl ?_
    refine kw_iload_n hB M_endOfLoop_103 rfl ?_
    refine kw_aload_n hB M_endOfLoop_104 rfl ?_
    refine kw_getf hB M_endOfLoop_105 f_M_50 e1.c rfl ?_
    refine kw_aload_n hB M_endOfLoop_108 rfl ?_
    refine kw_getf hB M_endOfLoop_109 f_M_22 e1.c rfl ?_
    refine kw_iload_n hB M_endOfLoop_112 rfl ?_
    refine kn_iald hB M_endOfLoop_113 py.2.2.2.2.1 rfl (by omega) (by decide) ?_
    rw [ed]
    refine kn_iald hB M_endOfLoop_114 r1 rfl hL (by decide) ?_
    rw [hR]
    refine kn_iast hB M_endOfLoop_115 m1 rfl (by omega) (by decide) ?_
    have f2 := jset_fr Y 158 (.inl (0, 24, .inl (upd md h0 (nI (R + 1)))))
    have n158 : ∀ k, k ≠ 158 → k ∉ [158] := fun k hk z => hk (List.mem_singleton.mp z)
    have l158 : 158 < Y.length := (List.getElem?_eq_some_iff.mp m1).1
    have e3 := e1.fr f2 (fun k hk => by rw [List.mem_singleton.mp hk]; decide)
    have m2 : (Y.set 158 (.inl (0, 24, .inl (upd md h0 (nI (R + 1))))))[158]? = some (.inl (0, 24, .inl (upd md h0 (nI (R + 1))))) := List.getElem?_set_self l158
    have r2 := f2.at (n158 159 (by decide)) r1
    have q2 := (hq0.fr hf jmk_lo).fr f2 (fun k hk => by have := List.mem_singleton.mp hk; omega)
    have py2 := py.fr f2 (fun k hk => by have := List.mem_singleton.mp hk; omega)
    have g2 : jfr jGs X _ := (jmk_gs hf).tr (f2.mono (fun k hk => by rw [List.mem_singleton.mp hk]; decide))
    generalize Y.set 158 (.inl (0, 24, .inl (upd md h0 (nI (R + 1))))) = Y2 at f2 e3 m2 r2 q2 g2 py2
    have hl2 := g2.1
    refine kw_iload hB M_endOfLoop_116 rfl ?_
    refine kn_if_eq hB M_endOfLoop_118 (by cases jDn nw (jBf bf (L h0)) 5 <;> decide) (fun z => ?_) (fun z => ?_)
    · have hd := jb_f z
      refine kw_aload_n hB M_endOfLoop_131 rfl ?_
      refine kw_iconst hB M_endOfLoop_132 (v := nI 0) (by decide) ?_
      refine kw_iload_n hB M_endOfLoop_133 rfl ?_
      refine kw_callV hB M_endOfLoop_134 s_M_228 im_M_copySet se_M_copySet e3.c rfl rfl (As := [.int (nI 0), .int (nI (5 + 10 * L h0))]) (w_M_copySet l D g (a := 0) (b := 5 + 10 * L h0) (N := fun v => jCr1 (decide (3 ≤ R + 1)) (nw v) (jBf bf (L h0) v)) e3 (by decide) (by omega) (Or.inl (by omega)) (fun v hv => by rw [Nat.zero_add]; exact e2.1 v hv)) rfl (by decide) (Nat.le_of_ble_eq_true rfl) (by omega) (by omega) (fun r X1 hq hl => ?_)
      obtain ⟨rfl, f3, h3, q3, q4, g3⟩ := hq
      have F3 := e2.b hL q3 q4
      have r3 := g3.at (nm 159 (Or.inr rfl)) r2
      have m3 := g3.at (nm 158 (Or.inl rfl)) m2
      have py3 := py2.fr g3 jmk_lo
      have hl3 := g3.1
      refine kw_aload_n hB M_endOfLoop_137 rfl ?_
      refine kw_getf hB M_endOfLoop_138 f_M_50 h3.c rfl ?_
      refine kw_aload_n hB M_endOfLoop_141 rfl ?_
      refine kw_getf hB M_endOfLoop_142 f_M_22 h3.c rfl ?_
      refine kw_iload_n hB M_endOfLoop_145 rfl ?_
      refine kn_iald hB M_endOfLoop_146 py3.2.2.2.2.1 rfl (by omega) (by decide) ?_
      rw [ed]
      refine kw_dup2 hB M_endOfLoop_147 rfl rfl ?_
      refine kn_iald hB M_endOfLoop_148 r3 rfl hL (by decide) ?_
      rw [hR]
      refine kw_iconst hB M_endOfLoop_149 (v := nI 1) (by decide) ?_
      refine kn_iadd hB M_endOfLoop_150 ?_
      refine kn_iast hB M_endOfLoop_151 r3 rfl hL (by decide) ?_
      have f4 := jset_fr X1 159 (.inl (0, 3, .inl (upd rn (L h0) (nI (R + 1 + 1)))))
      have l159 : 159 < X1.length := (List.getElem?_eq_some_iff.mp r3).1
      have n159 : ∀ k, k ≠ 159 → k ∉ [159] := fun k hk z => hk (List.mem_singleton.mp z)
      have e4 := h3.fr f4 (fun k hk => by rw [List.mem_singleton.mp hk]; decide)
      have m4 := f4.at (n159 158 (by decide)) m3
      have r4 : (X1.set 159 (.inl (0, 3, .inl (upd rn (L h0) (nI (R + 1 + 1))))))[159]? = some (.inl (0, 3, .inl (upd rn (L h0) (nI (R + 1 + 1))))) := List.getElem?_set_self l159
      have q5 := (q2.fr g3 jmk_lo).fr f4 (fun k hk => by have := List.mem_singleton.mp hk; omega)
      have g4 : jfr jGs X _ := (g2.tr (jmk_gs g3)).tr (f4.mono (fun k hk => by rw [List.mem_singleton.mp hk]; decide))
      generalize X1.set 159 (.inl (0, 3, .inl (upd rn (L h0) (nI (R + 1 + 1))))) = Y4 at f4 e4 m4 r4 q5 g4
      have hl4 := g4.1
      refine kw_aload_n hB M_endOfLoop_152 rfl ?_
      refine kw_iload_n hB M_endOfLoop_153 rfl ?_
      refine kw_iconst hB M_endOfLoop_154 (v := nI 0) (by decide) ?_
      refine kw_callV hB M_endOfLoop_155 s_M_231 im_M_keep se_M_keep e4.c rfl rfl (As := [.int (nI h0), .int (nI false.toNat)]) (c_M_keep l D g (b := false) e4 q5 hh hln (Or.inr hk7) F3.1 acr) rfl (by decide) (Nat.le_of_ble_eq_true rfl) (by omega) (by omega) (fun r X1 hq hl => ?_)
      obtain ⟨rfl, s5, f5, h5, q6, q7, ks5, g5⟩ := hq
      have F5 := F3.n q6 q7
      have g6 := g4.tr (jmk_gs g5)
      refine kw_iload_n hB M_endOfLoop_158 rfl ?_
      refine kw_iconst hB M_endOfLoop_159 (v := nI 1) (by decide) ?_
      refine kn_iadd hB M_endOfLoop_160 ?_
      refine kw_iret hF rfl M_endOfLoop_161 ⟨by rw [hd]; rfl, s5, f5, _, h5, by rw [hd]; exact F5, ks.tr ks5, g5.at (nm 158 (Or.inl rfl)) m4, g5.at (nm 159 (Or.inr rfl)) r4, fun d hdd => pk_un hdd, fun _ => pk_us .., g6⟩ g6.1
    · have hd := jb_t z
      have same : ∀ v, v < 5 → jCr1 (decide (3 ≤ R + 1)) (nw v) (jBf bf (L h0) v) = jBf bf (L h0) v := fun v hv => cr v hv (jDn_t 5 hd v hv)
      have Fd : jFs' f1 (fun v => jCr1 (decide (3 ≤ R + 1)) (nw v) (jBf bf (L h0) v)) (jPut bf (L h0 * 5) 5 (fun v => jCr1 (decide (3 ≤ R + 1)) (nw v) (jBf bf (L h0) v))) bg sk := e2.b hL (fun v hv => by rw [same v hv]; exact e2.2.1 (L h0) v _ hL hv (jis_some (sb v hv))) (fun _ _ => rfl)
      refine kw_aload_n hB M_endOfLoop_121 rfl ?_
      refine kw_iload_n hB M_endOfLoop_122 rfl ?_
      refine kw_iconst hB M_endOfLoop_123 (v := nI 1) (by decide) ?_
      refine kw_callV hB M_endOfLoop_124 s_M_231 im_M_keep se_M_keep e3.c rfl rfl (As := [.int (nI h0), .int (nI true.toNat)]) (c_M_keep l D g (b := true) e3 q2 hh hln (Or.inr hk7) Fd.1 acr) rfl (by decide) (Nat.le_of_ble_eq_true rfl) (by omega) (by omega) (fun r X1 hq hl => ?_)
      obtain ⟨rfl, s5, f5, h5, q6, q7, ks5, g5⟩ := hq
      have F5 := Fd.n q6 q7
      have g6 := g2.tr (jmk_gs g5)
      refine kw_iload_n hB M_endOfLoop_127 rfl ?_
      refine kw_iconst hB M_endOfLoop_128 (v := nI 1) (by decide) ?_
      refine kn_iadd hB M_endOfLoop_129 ?_
      refine kw_iret hF rfl M_endOfLoop_130 ⟨by rw [hd]; rfl, s5, f5, _, h5, by rw [hd]; exact F5, ks.tr ks5, g5.at (nm 158 (Or.inl rfl)) m2, g5.at (nm 159 (Or.inr rfl)) r2, fun d _ => rfl, (fun w => by rw [hd] at w; cases w), g6⟩ g6.1
  have loop : ∀ p v (s1 : Nat → Int32) (f1 : Nat → Option jLan) (N1 : Nat → jLan) (Y : ja_H) (w : Value), v + p = 5 → jMe Y s1 f1 → jFs' f1 N1 bf bg sk → (∀ v', v' < v → N1 v' = jCr1 (decide (3 ≤ R + 1)) (nw v') (jBf bf (L h0) v')) → (∀ v', v ≤ v' → v' < 5 → N1 v' = jUni (nw v') (jBf bf (L h0) v')) → jKs s s1 → jfr jMks X Y → K9 30 [.ref 145, .int (nI i), .int (nI h0), .int (nI (5 + 10 * L h0)), .int (nI (jDn nw (jBf bf (L h0)) v).toNat), .int (nI v), w] [] Y 0 0 := by
    intro p
    induction p with
    | zero =>
      intro v s1 f1 N1 Y w hv e1 e2 e3 e4 ks hf
      refine kw_iload hB M_endOfLoop_30 rfl ?_
      refine kw_iconst hB M_endOfLoop_32 (v := nI 5) (by decide) ?_
      refine kn_icmp_ge hB M_endOfLoop_33 (by omega) (by decide) (fun _ => ?_) (fun z => absurd z (by omega))
      rw [show v = 5 by omega]
      exact b99 Y s1 f1 _ _ e1 ⟨fun v' hv' => by rw [e2.1 v' hv', e3 v' (by omega)], e2.2⟩ ks hf
    | succ p ih =>
      intro v s1 f1 N1 Y w hv e1 e2 e3 e4 ks hf
      have py := hp.fr hf jmk_lo
      have r1 := hf.at (nm 159 (Or.inr rfl)) hrn
      have fu : f1 v = some (jUni (nw v) (jBf bf (L h0) v)) := by rw [e2.1 v (by omega), e4 v (Nat.le_refl _) (by omega)]
      have fh : f1 (5 + 10 * L h0 + v) = some (jBf bf (L h0) v) := e2.2.1 (L h0) v _ hL (by omega) (jis_some (sb v (by omega)))
      refine kw_iload hB M_endOfLoop_30 rfl ?_
      refine kw_iconst hB M_endOfLoop_32 (v := nI 5) (by decide) ?_
      refine kn_icmp_ge hB M_endOfLoop_33 (by omega) (by decide) (fun z => absurd z (by omega)) (fun _ => ?_)
      refine kw_aload_n hB M_endOfLoop_36 rfl ?_
      refine kw_iload hB M_endOfLoop_37 rfl ?_
      refine kw_iload_n hB M_endOfLoop_39 rfl ?_
      refine kw_iload hB M_endOfLoop_40 rfl ?_
      refine kn_iadd hB M_endOfLoop_42 ?_
      refine kw_callV hB M_endOfLoop_43 s_M_238 im_M_same se_M_same e1.c rfl rfl (As := [.int (nI v), .int (nI (5 + 10 * L h0 + v))]) (w_M_same l D g e1 (by omega) (by omega) fu fh) rfl (by decide) (Nat.le_of_ble_eq_true rfl) (by omega) (by omega) (fun r X1 hq hl => ?_)
      obtain ⟨rfl, hxeq⟩ := hq
      obtain rfl := hxeq.symm
      -- behind the widening
      have b76 : ∀ (Z : ja_H) (s2 : Nat → Int32) (f2 : Nat → Option jLan) (N2 : Nat → jLan), jMe Z s2 f2 → jFs' f2 N2 bf bg sk → (∀ v', v' < v + 1 → N2 v' = jCr1 (decide (3 ≤ R + 1)) (nw v') (jBf bf (L h0) v')) → (∀ v', v + 1 ≤ v' → v' < 5 → N2 v' = jUni (nw v') (jBf bf (L h0) v')) → jKs s s2 → jfr jMks X Z → K9 76 [.ref 145, .int (nI i), .int (nI h0), .int (nI (5 + 10 * L h0)), .int (nI (jDn nw (jBf bf (L h0)) v).toNat), .int (nI v), .int (nI (decide (jUni (nw v) (jBf bf (L h0) v) = jBf bf (L h0) v)).toNat)] [] Z 0 0 := by
        intro Z s2 f2 N2 z1 z2 z3 z4 zk zf
        have e93 : ∀ q : Bool, q = jDn nw (jBf bf (L h0)) (v + 1) → K9 91 [.ref 145, .int (nI i), .int (nI h0), .int (nI (5 + 10 * L h0)), .int (nI (jDn nw (jBf bf (L h0)) v).toNat), .int (nI v), .int (nI (decide (jUni (nw v) (jBf bf (L h0) v) = jBf bf (L h0) v)).toNat)] [.int (nI q.toNat)] Z 0 0 := by
          intro q hqd
          refine kw_istore hB M_endOfLoop_91 (by decide) rfl ?_
          refine kn_iinc hB M_endOfLoop_93 rfl (by decide) rfl ?_
          refine kw_goto hB M_endOfLoop_96 ?_
          rw [hqd]
          exact ih (v + 1) s2 f2 N2 Z _ (by omega) z1 z2 z3 z4 zk zf
        refine kw_iload hB M_endOfLoop_76 rfl ?_
        refine kn_if_eq hB M_endOfLoop_78 (by cases jDn nw (jBf bf (L h0)) v <;> decide) (fun w1 => ?_) (fun w1 => ?_)
        · refine kw_iconst hB M_endOfLoop_90 (v := nI 0) (by decide) ?_
          exact e93 false (by rw [jDn, jb_f w1]; rfl)
        · refine kw_iload hB M_endOfLoop_81 rfl ?_
          refine kn_if_eq hB M_endOfLoop_83 (by cases decide (jUni (nw v) (jBf bf (L h0) v) = jBf bf (L h0) v) <;> decide) (fun w2 => ?_) (fun w2 => ?_)
          · refine kw_iconst hB M_endOfLoop_90 (v := nI 0) (by decide) ?_
            exact e93 false (by rw [jDn, jb_t w1, jb_f w2]; rfl)
          · refine kw_iconst hB M_endOfLoop_86 (v := nI 1) (by decide) ?_
            refine kw_goto hB M_endOfLoop_87 ?_
            exact e93 true (by rw [jDn, jb_t w1, jb_t w2]; rfl)
      have stay : jUni (nw v) (jBf bf (L h0) v) = jCr1 (decide (3 ≤ R + 1)) (nw v) (jBf bf (L h0) v) → K9 76 [.ref 145, .int (nI i), .int (nI h0), .int (nI (5 + 10 * L h0)), .int (nI (jDn nw (jBf bf (L h0)) v).toNat), .int (nI v), .int (nI (decide (jUni (nw v) (jBf bf (L h0) v) = jBf bf (L h0) v)).toNat)] [] Y 0 0 := fun hst => b76 Y s1 f1 N1 e1 e2 (fun v' hv' => by
        by_cases z : v' = v
        · subst z; rw [e4 v' (Nat.le_refl _) (by omega)]; exact hst
        · exact e3 v' (by omega)) (fun v' h1 h2 => e4 v' (by omega) h2) ks hf
      refine kw_istore hB M_endOfLoop_46 (by decide) rfl ?_
      refine kw_iload hB M_endOfLoop_48 rfl ?_
      refine kn_if_ne hB M_endOfLoop_50 (by cases decide (jUni (nw v) (jBf bf (L h0) v) = jBf bf (L h0) v) <;> decide) (fun z => ?_) (fun z => ?_)
      · have he : jUni (nw v) (jBf bf (L h0) v) = jBf bf (L h0) v := of_decide_eq_true (jb_t z)
        exact stay (by rw [cr v (by omega) he, he])
      · have hne : ¬ jUni (nw v) (jBf bf (L h0) v) = jBf bf (L h0) v := of_decide_eq_false (jb_f z)
        refine kw_aload_n hB M_endOfLoop_53 rfl ?_
        refine kw_getf hB M_endOfLoop_54 f_M_50 e1.c rfl ?_
        refine kw_aload_n hB M_endOfLoop_57 rfl ?_
        refine kw_getf hB M_endOfLoop_58 f_M_22 e1.c rfl ?_
        refine kw_iload_n hB M_endOfLoop_61 rfl ?_
        refine kn_iald hB M_endOfLoop_62 py.2.2.2.2.1 rfl (by omega) (by decide) ?_
        rw [ed]
        refine kn_iald hB M_endOfLoop_63 r1 rfl hL (by decide) ?_
        rw [hR]
        refine kw_iconst hB M_endOfLoop_64 (v := nI 3) (by decide) ?_
        refine kn_icmp_lt hB M_endOfLoop_65 (by omega) (by decide) (fun h3 => ?_) (fun h3 => ?_)
        · exact stay (by unfold jCr1; rw [if_neg hne, decide_eq_false (show ¬ 3 ≤ R + 1 by omega)]; rfl)
        · refine kw_aload_n hB M_endOfLoop_68 rfl ?_
          refine kw_iload hB M_endOfLoop_69 rfl ?_
          refine kw_iload hB M_endOfLoop_71 rfl ?_
          refine kw_callV hB M_endOfLoop_73 s_M_222 im_M_widen se_M_widen e1.c rfl rfl (As := [.int (nI v), .int (nI v)]) (w_M_widen l D g (to := v) e1 (by omega) (by omega) (by omega) (by omega) fu) rfl (by decide) (Nat.le_of_ble_eq_true rfl) (by omega) (by omega) (fun r X1 hq hl => ?_)
          obtain ⟨rfl, s2, f2, h2, hf2, ks2, g2⟩ := hq
          refine b76 X1 s2 f2 (va_up N1 v (jWid (jUni (nw v) (jBf bf (L h0) v)))) h2 (e2.n (fun v' hv' => ?_) (fun c c1 c2 _ => by rw [hf2 c c2, jup_ne (by omega)])) (fun v' hv' => ?_) (fun v' h1 h2 => ?_) (ks.tr ks2) (hf.tr g2)
          · rw [hf2 v' (by omega)]
            by_cases zv : v' = v
            · subst zv; rw [jup_self, jup_self]
            · rw [jup_ne zv, jup_ne zv]; exact e2.1 v' hv'
          · by_cases zv : v' = v
            · subst zv; rw [jup_self]; unfold jCr1; rw [if_neg hne, decide_eq_true (show 3 ≤ R + 1 by omega)]; rfl
            · rw [jup_ne zv]; exact e3 v' (by omega)
          · rw [jup_ne (by omega)]; exact e4 v' (by omega) h2
  refine kw_aload_n hB M_endOfLoop_0 rfl ?_
  refine kw_getf hB M_endOfLoop_1 f_M_25 h.c rfl ?_
  refine kw_iload_n hB M_endOfLoop_4 rfl ?_
  refine kn_iald hB M_endOfLoop_5 hp.2.2.2.2.2.1 rfl (by omega) (by decide) ?_
  rw [eb]
  refine kw_istore_n hB M_endOfLoop_6 rfl (by decide) rfl ?_
  refine kw_iconst hB M_endOfLoop_7 (v := nI 5) (by decide) ?_
  refine kw_bipush hB M_endOfLoop_8 (v := nI 10) (by decide) ?_
  refine kw_aload_n hB M_endOfLoop_10 rfl ?_
  refine kw_getf hB M_endOfLoop_11 f_M_22 h.c rfl ?_
  refine kw_iload_n hB M_endOfLoop_14 rfl ?_
  refine kn_iald hB M_endOfLoop_15 hp.2.2.2.2.1 rfl (by omega) (by decide) ?_
  rw [ed]
  refine kn_imul hB M_endOfLoop_16 ?_
  refine kn_iadd hB M_endOfLoop_17 ?_
  refine kw_istore_n hB M_endOfLoop_18 rfl (by decide) rfl ?_
  refine kw_aload_n hB M_endOfLoop_19 rfl ?_
  refine kw_iload_n hB M_endOfLoop_20 rfl ?_
  refine kw_callV hB M_endOfLoop_21 s_M_235 im_M_unite se_M_unite h.c rfl rfl (As := [.int (nI (5 + 10 * L h0))]) (w_M_unite l D g (N := nw) (H := jBf bf (L h0)) h (by omega) (by omega) hF0.1 (fun v hv => hF0.2.1 (L h0) v _ hL hv (jis_some (sb v hv)))) rfl (by decide) (Nat.le_of_ble_eq_true rfl) (by omega) (by omega) (fun r X1 hq hl => ?_)
  obtain ⟨rfl, s2, f2, q1, q2, q3, q4, q5⟩ := hq
  refine kw_iconst hB M_endOfLoop_24 (v := nI 1) (by decide) ?_
  refine kw_istore hB M_endOfLoop_25 (by decide) rfl ?_
  refine kw_iconst hB M_endOfLoop_27 (v := nI 0) (by decide) ?_
  refine kw_istore hB M_endOfLoop_28 (by decide) rfl ?_
  exact loop 5 0 s2 f2 _ X1 _ (by omega) q1 (hF0.n q2 (fun c c1 c2 _ => q3 c c1 c2)) (fun v' hv' => absurd hv' (by omega)) (fun _ _ _ => rfl) q4 q5
end JMA3
