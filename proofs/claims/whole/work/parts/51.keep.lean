-- Analysis: keep
def jmx (k s j : Nat) : Nat := jmt k s (j % 8 + 1) (j / 8)
/-- whether a condition holds for a word -/
def jMt (k s : Nat) (w : List Nat) : Bool := Nat.testBit 2 (jgo (jmx k s) 0 w)
noncomputable def jKpL (A : jLan) (k s : Nat) (b : Bool) : jLan := jMk (fun w => jAc A w && (jMt k s w == b))
noncomputable def jKp (nw : Nat → jLan) (v k s : Nat) (b : Bool) : Nat → jLan := if jKpL (nw v) k s b = jEmp then fun _ => jEmp else va_up nw v (jKpL (nw v) k s b)
def jNow (X : ja_H) (nw : Nat → jLan) : Prop := ∀ v, v < 5 → jVal X (70 + 2 * v) (nw v)
def jNa (X : ja_H) : Prop := ∃ f : Nat → Option Nat, X[22]? = some (.inl (4, 5, .inr (.inr (.inr (.inr f))))) ∧ ∀ v, v < 5 → f v = some (70 + 2 * v)
def jNs : List Nat := List.range' 70 10
theorem jNs_mem {k : Nat} : k ∈ jNs ↔ 70 ≤ k ∧ k < 80 := by rw [jNs, List.mem_range'_1]
theorem jNa.fr {S : List Nat} {X Y : ja_H} (h : jNa X) (hf : jfr S X Y) (hS : 22 ∉ S) : jNa Y := by
  obtain ⟨f, a, b⟩ := h
  exact ⟨f, hf.at hS a, b⟩
theorem jmx_lt (k s j : Nat) : jmx k s j < 3 := by
  unfold jmx jmt; repeat' split
  all_goals omega
section JKE
variable (l : Launch) (D : va_G) (g : Nat × Nat) {X : ja_H}
theorem w_L_becomeMeeting {q k s : Nat} (h : jLx X q) (hk : k < 3) (hs : s ≤ 4) : AMet l D g 1 0 0 m_L_becomeMeeting [.ref q, .int (nI k), .int (nI s)] X (fun r X' => r = none ∧ jLv X' q 3 2 (jmx k s) ∧ jfr [q, q + 1] X X') := by
  obtain ⟨n, gd, f, h⟩ := h
  refine (c_L_becomeMeeting l D g h hk hs).post (fun r X' hq => ?_)
  obtain ⟨h1, rfl⟩ := hq
  refine ⟨h1, ⟨_, jLs_r _ _ _ h.lt, fun i hi => ?_, by decide, by decide, by decide, fun i hi => jmx_lt k s i⟩, jLs_fr _ _ _ _ _⟩
  simp only [jmtk]
  rw [if_pos (by omega)]
  rfl
set_option maxHeartbeats 8000000 in
set_option maxRecDepth 100000 in
theorem c_A_keep {n hd : Nat} {md un : Int32} {K0 V A B M L : Nat → Nat} {nw : Nat → jLan} {b : Bool} (h : jAo X md un) (hS : jSc X) (ha : jNa X) (hN : jNow X nw) (hR : jRv X 2 n K0 V A B M L) (hh : hd < n) (hk : K0 hd = 5 ∨ K0 hd = 7) : AMet l D g 4 0 0 m_A_keep [.ref 11, .ref 2, .int (nI hd), .int (nI b.toNat)] X (fun r X' => r = none ∧ jNow X' (jKp nw (V hd) (A hd) (B hd) b) ∧ jSc X' ∧ jfr (jNs ++ jZs) X X') := by
  have hS0 := hS
  obtain ⟨s1, s2, s3, ⟨ch0, s4⟩, s5, s6, -⟩ := hS
  obtain ⟨kd, vr, fs, sc, mt, lv, pt, hdd, sk, op, r, hn, hr⟩ := hR
  obtain ⟨r1, r2, r3, r4, -, r6, -, -, -, -, -, r12, -⟩ := hr hd hh
  obtain ⟨k1, k2, k3⟩ := r12 hk
  obtain ⟨fa, a1, a2⟩ := ha
  have hv := hN (V hd) r6
  obtain ⟨na24, na1, -, hxa⟩ := hv.1.good
  refine ja_metK (by decide) rfl (Nat.le_of_ble_eq_true rfl) fun K hB hF => ?_
  have tail : ∀ (u : Value) (Y : ja_H), jfr (jNs ++ jZs) X Y → jSc Y → jNow Y (va_up nw (V hd) (jKpL (nw (V hd)) (A hd) (B hd) b)) → K 74 [.ref 11, .ref 2, .int (nI hd), .int (nI b.toNat), .ref (70 + 2 * V hd), u] [] Y 0 0 := by
    intro u Y hf hSY hY
    have noN : ∀ k, k < 27 → k ∉ jNs ++ jZs := fun k hk z => by
      rw [List.mem_append, jNs_mem, jZs_mem] at z
      omega
    have hvY := hY (V hd) r6
    rw [jup_self] at hvY
    have hle := hf.1
    refine kw_aload hB A_keep_74 rfl ?_
    refine kw_callV hB A_keep_76 s_A_197 im_L_isEmpty se_L_isEmpty hvY.1.choose_spec.1.1 rfl rfl (As := []) (w_L_isEmpty l D g hvY) rfl (by decide) (Nat.le_of_ble_eq_true rfl) (by omega) (by omega) (fun r X1 hq hl => ?_)
    obtain ⟨rfl, hxeq⟩ := hq
    obtain rfl := hxeq.symm
    refine kn_if_eq hB A_keep_79 (by cases decide (jKpL (nw (V hd)) (A hd) (B hd) b = jEmp) <;> decide) (fun hz => ?_) (fun hz => ?_)
    · have hne : ¬ jKpL (nw (V hd)) (A hd) (B hd) b = jEmp := of_decide_eq_false (jb_f hz)
      refine kw_vret hF rfl A_keep_107 ?_ (by omega)
      refine ⟨rfl, ?_, hSY, hf⟩
      unfold jKp
      rw [if_neg hne]
      exact hY
    · have he : jKpL (nw (V hd)) (A hd) (B hd) b = jEmp := of_decide_eq_true (jb_t hz)
      have loop : ∀ m v (Y : ja_H), v + m = 5 → jfr (jNs ++ jZs) X Y → jSc Y → (∀ v', v' < 5 → jLx Y (70 + 2 * v')) → (∀ v', v' < v → jVal Y (70 + 2 * v') jEmp) → K 85 [.ref 11, .ref 2, .int (nI hd), .int (nI b.toNat), .ref (70 + 2 * V hd), .int (nI v)] [] Y 0 0 := by
        intro m
        induction m with
        | zero =>
          intro v Y hv5 hf hSY hx hd'
          have hle := hf.1
          refine kw_iload hB A_keep_85 rfl ?_
          refine kw_iconst hB A_keep_87 (v := nI 5) (by decide) ?_
          refine kn_icmp_ge hB A_keep_88 (by omega) (by decide) (fun hc => ?_) (fun hc => absurd hc (by omega))
          refine kw_vret hF rfl A_keep_107 ?_ (by omega)
          refine ⟨rfl, ?_, hSY, hf⟩
          unfold jKp
          rw [if_pos he]
          exact fun v' hv' => hd' v' (by omega)
        | succ m ih =>
          intro v Y hv5 hf hSY hx hd'
          have hle := hf.1
          have hY11 : jAo Y md un := hf.at (noN 11 (by decide)) h
          have hYa := hf.at (noN 22 (by decide)) a1
          refine kw_iload hB A_keep_85 rfl ?_
          refine kw_iconst hB A_keep_87 (v := nI 5) (by decide) ?_
          refine kn_icmp_ge hB A_keep_88 (by omega) (by decide) (fun hc => absurd hc (by omega)) (fun hc => ?_)
          refine kw_aload_n hB A_keep_91 rfl ?_
          refine kw_getf hB A_keep_92 f_A_33 hY11 rfl ?_
          refine kw_iload hB A_keep_95 rfl ?_
          refine kn_aald hB A_keep_97 hYa rfl rfl (by omega) (by decide) (a2 _ (by omega)) ?_
          refine kw_callV hB A_keep_98 s_A_229 im_L_becomeEmpty se_L_becomeEmpty (hx v (by omega)).choose_spec.choose_spec.choose_spec.1 rfl rfl (As := []) (w_L_becomeEmpty l D g (hx v (by omega))) rfl (by decide) (Nat.le_of_ble_eq_true rfl) (by omega) (by omega) (fun r X1 hq hl => ?_)
          obtain ⟨rfl, e1, e2⟩ := hq
          have noE : ∀ k, k ≠ 70 + 2 * v → k ≠ 70 + 2 * v + 1 → k ∉ [70 + 2 * v, 70 + 2 * v + 1] := fun k h1 h2 z => by simp only [List.mem_cons, List.not_mem_nil, or_false] at z; omega
          refine kn_iinc hB A_keep_101 rfl (by decide) rfl ?_
          refine kw_goto hB A_keep_104 ?_
          refine ih (v + 1) X1 (by omega) (hf.tr (e2.mono (fun k hk => ?_))) (hSY.fr e2 (fun k hk => ?_)) (fun v' hv' => ?_) (fun v' hv' => ?_)
          · rw [List.mem_append, jNs_mem]
            simp only [List.mem_cons, List.not_mem_nil, or_false] at hk
            omega
          · simp only [List.mem_cons, List.not_mem_nil, or_false] at hk
            omega
          · by_cases hvv : v' = v
            · subst hvv; exact e1.x
            · exact (hx v' hv').fr e2 (noE _ (by omega) (by omega)) (noE _ (by omega) (by omega))
          · by_cases hvv : v' = v
            · subst hvv; exact e1
            · exact (hd' v' (by omega)).fr e2 (noE _ (by omega) (by omega)) (noE _ (by omega) (by omega))
      refine kw_iconst hB A_keep_82 (v := nI 0) (by decide) ?_
      refine kw_istore hB A_keep_83 (by decide) rfl ?_
      exact loop 5 0 _ (by omega) hf hSY (fun v' hv' => (hY v' hv').x) (fun v' hv' => absurd hv' (by omega))
  refine kw_aload_n hB A_keep_0 rfl ?_
  refine kw_getf hB A_keep_1 f_A_33 h rfl ?_
  refine kw_aload_n hB A_keep_4 rfl ?_
  refine kw_getf hB A_keep_5 f_A_135 r.1 rfl ?_
  refine kw_iload_n hB A_keep_8 rfl ?_
  refine kn_iald hB A_keep_9 r.2.2.1 rfl (by omega) (by decide) ?_
  rw [r2]
  refine kn_aald hB A_keep_10 a1 rfl rfl r6 (by decide) (a2 _ r6) ?_
  refine kw_astore hB A_keep_11 (by decide) rfl ?_
  refine kw_aload_n hB A_keep_13 rfl ?_
  refine kw_getf hB A_keep_14 f_A_47 h rfl ?_
  refine kw_aload_n hB A_keep_17 rfl ?_
  refine kw_getf hB A_keep_18 f_A_132 r.1 rfl ?_
  refine kw_iload_n hB A_keep_21 rfl ?_
  refine kn_iald hB A_keep_22 r.2.2.2.1 rfl (by omega) (by decide) ?_
  rw [r3]
  refine kw_aload_n hB A_keep_23 rfl ?_
  refine kw_getf hB A_keep_24 f_A_173 r.1 rfl ?_
  refine kw_iload_n hB A_keep_27 rfl ?_
  refine kn_iald hB A_keep_28 r.2.2.2.2.1 rfl (by omega) (by decide) ?_
  rw [r4]
  refine kw_callV hB A_keep_29 s_A_225 im_L_becomeMeeting se_L_becomeMeeting s1.choose_spec.choose_spec.choose_spec.1 rfl rfl (As := [.int (nI (A hd)), .int (nI (B hd))]) (w_L_becomeMeeting l D g s1 k1 k3) rfl (by decide) (Nat.le_of_ble_eq_true rfl) (by omega) (by omega) (fun r X1 hq hl => ?_)
  obtain ⟨rfl, m1, m2⟩ := hq
  have no2 : ∀ k, k ≠ 27 → k ≠ 28 → k ∉ [27, 27 + 1] := fun k h1 h2 z => by simp only [List.mem_cons, List.not_mem_nil, or_false] at z; omega
  have h1 : jAo X1 md un := m2.at (no2 11 (by decide) (by decide)) h
  have hv1 := hv.fr m2 (no2 _ (by omega) (by omega)) (no2 _ (by omega) (by omega))
  have s41 : jPr X1 40 ch0 := m2.at (no2 40 (by decide) (by decide)) s4
  have s51 := s5.fr m2 (no2 _ (by decide) (by decide)) (no2 _ (by decide) (by decide))
  have s61 := s6.fr m2 (no2 _ (by decide) (by decide)) (no2 _ (by decide) (by decide))
  have s31 := s3.fr m2 (fun k hk => by simp only [List.mem_cons, List.not_mem_nil, or_false] at hk; omega)
  refine kw_aload_n hB A_keep_32 rfl ?_
  refine kw_getf hB A_keep_33 f_A_63 h1 rfl ?_
  refine kw_aload hB A_keep_36 rfl ?_
  refine kw_aload_n hB A_keep_38 rfl ?_
  refine kw_getf hB A_keep_39 f_A_47 h1 rfl ?_
  refine kw_iload_n hB A_keep_42 rfl ?_
  have go : ∀ (u : Value) ch, ch < 3 → (∀ w, jok w → (jAc (nw (V hd)) w && (jMt (A hd) (B hd) w == b)) = jPg (nw (V hd)).2.1 2 ch (jkr (jPn (jXf (nw (V hd))) (jmx (A hd) (B hd))) 0 w)) → K 51 [.ref 11, .ref 2, .int (nI hd), .int (nI b.toNat), .ref (70 + 2 * V hd), u] [.int (nI ch), .ref 27, .ref (70 + 2 * V hd), .ref 40] X1 0 0 := by
    intro u ch hch hlang
    refine kw_callV hB A_keep_51 s_A_154 im_P_use se_P_use s41 rfl rfl (As := [.ref (70 + 2 * V hd), .ref 27, .int (nI ch)]) (c_P_use l D g (ch := ch) s41 s51 s61 hv1.1 m1 ⟨by omega, by omega, Or.inr (by omega)⟩ (Or.inl (by decide))) rfl (by decide) (Nat.le_of_ble_eq_true rfl) (by omega) (by omega) (fun r X1 hq hl => ?_)
    obtain ⟨rfl, q1, q2, q3, q4⟩ := hq
    have no : ∀ k, k < 40 ∨ 44 < k → k ∉ [40, 40 + 1, 40 + 2, 40 + 3, 40 + 4] := fun k hk z => by simp only [List.mem_cons, List.not_mem_nil, or_false] at z; omega
    have h1 : jAo X1 md un := q4.at (no 11 (by decide)) h1
    have b1 : jBx X1 31 := s31.fr q4 (fun k hk => by simp only [List.mem_cons, List.not_mem_nil, or_false] at hk; omega)
    refine kw_aload_n hB A_keep_54 rfl ?_
    refine kw_getf hB A_keep_55 f_A_56 h1 rfl ?_
    refine kw_aload_n hB A_keep_58 rfl ?_
    refine kw_getf hB A_keep_59 f_A_63 h1 rfl ?_
    refine kw_callV hB A_keep_62 s_A_158 im_B_explore se_B_explore b1.choose_spec.choose_spec.choose_spec.choose_spec.choose_spec.choose_spec.choose_spec.choose_spec.choose_spec.1.1 rfl rfl (As := [.ref 40]) (v_B_explore l D g b1 (jRl_P l D g q1 hch q2 q3 (Or.inr (by decide)))) rfl (by decide) (Nat.le_of_ble_eq_true rfl) (by omega) (by omega) (fun r X1 hq hl => ?_)
    obtain ⟨rfl, x1, x2⟩ := hq
    have noB : ∀ k, k < 31 ∨ 39 < k → k ∉ jBS 31 := fun k hk z => by simp only [List.mem_cons, List.not_mem_nil, or_false] at z; omega
    have h2 : jAo X1 md un := x2.at (noB 11 (by decide)) h1
    have a2' : jLx X1 (70 + 2 * V hd) := (hv1.x.fr q4 (no _ (by omega)) (no _ (by omega))).fr x2 (noB _ (by omega)) (noB _ (by omega))
    refine kw_aload_n hB A_keep_65 rfl ?_
    refine kw_getf hB A_keep_66 f_A_56 h2 rfl ?_
    refine kw_aload hB A_keep_69 rfl ?_
    refine kw_callV hB A_keep_71 s_A_190 im_B_reduce se_B_reduce x1.x.choose_spec.choose_spec.choose_spec.choose_spec.choose_spec.choose_spec.choose_spec.choose_spec.choose_spec.1.1 rfl rfl (As := [.ref (70 + 2 * V hd)]) (w_B_reduce l D g x1 a2' (Or.inr (by omega))) rfl (by decide) (Nat.le_of_ble_eq_true rfl) (by omega) (by omega) (fun r X1 hq hl => ?_)
    obtain ⟨rfl, y1, y2, y3⟩ := hq
    have noR : ∀ k, 39 < k → k ≠ 70 + 2 * V hd → k ≠ 70 + 2 * V hd + 1 → k ∉ (70 + 2 * V hd) :: (70 + 2 * V hd + 1) :: jBS 31 := fun k h1 h2 h3 z => by simp only [List.mem_cons, List.not_mem_nil, or_false] at z; omega
    have hfr : jfr ((70 + 2 * V hd) :: (70 + 2 * V hd + 1) :: [40, 40 + 1, 40 + 2, 40 + 3, 40 + 4] ++ jBS 31 ++ [27, 27 + 1]) X X1 := (((m2.mono (by intro k hk; simp only [List.mem_append, List.mem_cons, List.not_mem_nil, or_false] at hk ⊢; omega)).tr (q4.mono (by intro k hk; simp only [List.mem_append, List.mem_cons, List.not_mem_nil, or_false] at hk ⊢; omega))).tr (x2.mono (by intro k hk; simp only [List.mem_append, List.mem_cons, List.not_mem_nil, or_false] at hk ⊢; omega))).tr (y2.mono (by intro k hk; simp only [List.mem_append, List.mem_cons, List.not_mem_nil, or_false] at hk ⊢; omega))
    refine tail u X1 (hfr.mono (fun k hk => ?_)) ?_ (fun v' hv' => ?_)
    · rw [List.mem_append, jNs_mem, jZs_mem]
      simp only [List.mem_append, List.mem_cons, List.not_mem_nil, or_false] at hk
      omega
    · have nf : ∀ k, k ∉ ((70 + 2 * V hd) :: (70 + 2 * V hd + 1) :: [40, 40 + 1, 40 + 2, 40 + 3, 40 + 4] ++ jBS 31 ++ [27, 27 + 1]) ∨ (70 ≤ k ∨ (31 ≤ k ∧ k < 45) ∨ k = 27 ∨ k = 28) := fun k => by
        by_cases hz : k ∈ ((70 + 2 * V hd) :: (70 + 2 * V hd + 1) :: [40, 40 + 1, 40 + 2, 40 + 3, 40 + 4] ++ jBS 31 ++ [27, 27 + 1])
        · right
          simp only [List.mem_append, List.mem_cons, List.not_mem_nil, or_false] at hz
          omega
        · exact Or.inl hz
      have hm := m1.x.fr q4 (no _ (by decide)) (no _ (by decide))
      have hm := (hm.fr x2 (noB _ (by decide)) (noB _ (by decide)))
      have hm : jLx X1 27 := hm.fr y2 (fun z => by simp only [List.mem_cons, List.not_mem_nil, or_false] at z; omega) (fun z => by simp only [List.mem_cons, List.not_mem_nil, or_false] at z; omega)
      have hp : jPr X1 40 ch := y2.at (noR 40 (by decide) (by omega) (by omega)) (x2.at (noB 40 (by decide)) q1)
      have hl1 := (q2.x.fr x2 (noB _ (by decide)) (noB _ (by decide))).fr y2 (noR _ (by decide) (by omega) (by omega)) (noR _ (by decide) (by omega) (by omega))
      have hl3 := (q3.x.fr x2 (noB _ (by decide)) (noB _ (by decide))).fr y2 (noR _ (by decide) (by omega) (by omega)) (noR _ (by decide) (by omega) (by omega))
      obtain ⟨-, t2, -, -, -, -, t7, t8, t9, t10, t11, t12⟩ := hS0
      have nn : ∀ k, k = 29 ∨ k = 30 ∨ (45 ≤ k ∧ k < 58) → k ∉ ((70 + 2 * V hd) :: (70 + 2 * V hd + 1) :: [40, 40 + 1, 40 + 2, 40 + 3, 40 + 4] ++ jBS 31 ++ [27, 27 + 1]) := fun k hk => (nf k).elim id (fun z => absurd z (by omega))
      exact ⟨hm, t2.fr hfr (nn _ (by decide)) (nn _ (by decide)), y1, ⟨ch, hp⟩, hl1, hl3, hfr.at (nn _ (by decide)) t7, t8.fr hfr (nn _ (by decide)) (nn _ (by decide)), t9.fr hfr (nn _ (by decide)) (nn _ (by decide)), hfr.at (nn _ (by decide)) t10, t11.fr hfr (nn _ (by decide)) (nn _ (by decide)), t12.fr hfr (fun k hk => by rcases nf k with z | z; exact absurd hk z; omega)⟩
    · by_cases hvv : v' = V hd
      · subst hvv
        rw [jup_self]
        have : jKpL (nw (V hd)) (A hd) (B hd) b = jMk (fun w => jPg (nw (V hd)).2.1 2 ch (jkr (jPn (jXf (nw (V hd))) (jmx (A hd) (B hd))) 0 w)) := jMk_congr hlang
        rw [this]
        exact y3
      · rw [jup_ne hvv]
        refine (hN v' hv').fr hfr (fun z => ?_) (fun z => ?_)
        · simp only [List.mem_append, List.mem_cons, List.not_mem_nil, or_false] at z; omega
        · simp only [List.mem_append, List.mem_cons, List.not_mem_nil, or_false] at z; omega
  refine kn_if_eq hB A_keep_43 (by cases b <;> decide) (fun hz => ?_) (fun hz => ?_)
  · refine kw_iconst hB A_keep_50 (v := nI 2) (by decide) ?_
    refine go _ 2 (by decide) (fun w hw => ?_)
    rw [jP_lang na1 (by decide) (by decide) hxa (fun i _ => jmx_lt _ _ i) hw]
    show (jAc (nw (V hd)) w && (jMt (A hd) (B hd) w == b)) = (jAc (nw (V hd)) w && !jMt (A hd) (B hd) w)
    rw [jb_f hz]
    cases jMt (A hd) (B hd) w <;> rfl
  · refine kw_iconst hB A_keep_46 (v := nI 1) (by decide) ?_
    refine kw_goto hB A_keep_47 ?_
    refine go _ 1 (by decide) (fun w hw => ?_)
    rw [jP_lang na1 (by decide) (by decide) hxa (fun i _ => jmx_lt _ _ i) hw]
    show (jAc (nw (V hd)) w && (jMt (A hd) (B hd) w == b)) = (jAc (nw (V hd)) w && jMt (A hd) (B hd) w)
    rw [jb_t hz]
    cases jMt (A hd) (B hd) w <;> rfl
end JKE
