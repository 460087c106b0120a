-- the model: analyse
theorem jWl_0 : jWl 0 = [] := by unfold jWl; rw [jlen_0]; rfl
theorem jEps_ne : jEps ≠ jEmp := jMk_ne (w := []) (fun c hc => by cases hc) (decide_eq_true jWl_0.symm)
theorem jS0_alv : jAlv jS0 := ⟨Or.inr (fun _ _ => jEps_ne), fun _ => Or.inl (fun _ _ => rfl), fun _ => Or.inl (fun _ _ => rfl)⟩
theorem jgs_lo : ∀ k ∈ jGs, k < 146 ∨ 154 < k := fun k hk => by rw [jGs_mem] at hk; omega
section JMAN
variable (l : Launch) (D : va_G) (g : Nat × Nat) {X Y : ja_H} {n s : Nat} {K V A B M L : Nat → Nat} {σ : Nat → List (Nat × Nat)} {md : Bool} {ip wd pl : Nat → Nat} {hn : Nat} {ed : Int32}
set_option maxHeartbeats 16000000 in
set_option maxRecDepth 100000 in
theorem c_M_analyse (h : jMdl X n s K V A B M L σ md ip wd pl hn ed) (hP : jPP n s K V A B M L σ) : AMet l D g 11 0 0 m_M_analyse [.ref 145] X (fun r X' => ((σ n).length ≠ 0 → r = some (.int (-1)) ∧ X' = X) ∧ ((σ n).length = 0 → r = some (.int (nI (jUn (fun k => jWt (jSn (jFin n K V A B M L) k)) s))) ∧ jMdl X' n s K V A B M L σ true ip wd pl hn ed ∧ jfr jMS X X')) := by
  have hn24 := hP.1
  have hs6 := hP.2.1
  have hS := hP.2.2.1
  have hln := hP.2.2.2.2.2
  have hl3 := hS.len (Nat.le_refl n)
  obtain ⟨sc, f, mf, rn, fa, he, ⟨q0, q10, q11, q15, q38, q39⟩, hmp, h158, h159, h166, hi, -⟩ := h
  refine ja_metK (by decide) rfl (Nat.le_of_ble_eq_true rfl) fun K9 hB hF => ?_
  refine kw_aload_n hB M_analyse_0 rfl ?_
  refine kw_getf hB M_analyse_1 f_M_94 he.c rfl ?_
  rw [q10]
  refine kw_if_le hB M_analyse_4 (fun hc => ?_) (fun hc => ?_)
  rotate_left
  · have hz : (σ n).length ≠ 0 := fun z => hc (by rw [z]; decide)
    refine kw_iconst hB M_analyse_7 (v := -1) (by decide) ?_
    refine kw_iret hF rfl M_analyse_8 ?_ (by first | (simp [jLs_len]; done) | (simp [*]; done))
    exact ⟨fun _ => ⟨rfl, rfl⟩, fun z => absurd z hz⟩
  have hz : (σ n).length = 0 := by have := (nI_leI (b := 0) (by omega) (by decide)).mp hc; omega
  have hσ : σ n = [] := List.eq_nil_of_length_eq_zero hz
  have hq := hmp.mq hP hσ
  have hK : ∀ i, i < n → K i < 10 := fun i hi => (hln i hi).1
  have hV : ∀ i, i < n → V i < 5 := fun i hi => (hln i hi).2.1
  have hM : ∀ i, i < n → (K i = 6 → M (M i) < n) ∧ (8 ≤ K i → M i < n) := fun i hi => by
    refine ⟨fun hk => ?_, fun hk => ?_⟩
    · rcases hS.2 i hi with ⟨k, e⟩ | ⟨k, e, e2, e3⟩ | ⟨k, h0, t0, e1, e2, e3, e4⟩ | ⟨k, h0, p0, t0, e1, e2, e3, e4, e5, e6⟩ | ⟨k, h0, t0, e1, e2, e3, e4, e5, e6⟩
      · omega
      · omega
      · have hE := hS.end1 hσ (by omega) e1
        have ht := hS.top i (by omega) _ _ _ e1
        have hMM : M (M i) = h0 := by
          have : jE K M h0 = M i := by unfold jE; rw [e3, if_pos ⟨e2, hk⟩]
          rw [← this]; exact hE.2.2.1
        rw [hMM]; exact ht.2.2.1
      · omega
      · omega
    · rcases hS.2 i hi with ⟨k, e⟩ | ⟨k, e, e2, e3⟩ | ⟨k, h0, t0, e1, e2, e3, e4⟩ | ⟨k, h0, p0, t0, e1, e2, e3, e4, e5, e6⟩ | ⟨k, h0, t0, e1, e2, e3, e4, e5, e6⟩
      · omega
      · omega
      · omega
      · rw [e4]; exact (hS.top i (by omega) _ _ _ e1).2.2.1
      · rw [e4]; exact (hS.top i (by omega) _ _ _ e1).2.2.1
  have n166 : ∀ k, 166 ≤ k → k ∉ jGs := fun k hk z => by rw [jGs_mem] at z; omega
  obtain ⟨fn1, fn2⟩ := jFin_n (V := V) (A := A) (B := B) (M := M) (L := L) hS hσ hK hV hn24
  -- the sinks
  have hsk : ∀ k, k < s → (jFin n K V A B M L).2.2.2.2.2 k = some (jSn (jFin n K V A B M L) k) := fun k hk => by
    obtain ⟨j, j1, j2, j3⟩ := hP.2.2.2.2.1 k hk
    have := fn1.2.2.2.2.2.2.2.2 j j1 j2
    rw [j3] at this
    unfold jSn
    cases e : (jFin n K V A B M L).2.2.2.2.2 k with
    | none => rw [e] at this; cases this
    | some L' => rfl
  have l98 : ∀ p k (Y : ja_H) (s2 : Nat → Int32) (f2 : Nat → Option jLan) (fa2 : Nat → Int32), k + p = s → jMe Y s2 f2 → (∀ k, k < s → f2 (35 + k) = some (jSn (jFin n K V A B M L) k)) → s2 11 = nI s → Y[166]? = some (.inl (0, 96, .inl fa2)) → (∀ (Z : ja_H) (fa3 : Nat → Int32), jMe Z s2 f2 → Z[166]? = some (.inl (0, 96, .inl fa3)) → jfr [166] Y Z → K9 131 [.ref 145, .int (nI n), .int (nI (jUn (fun k => jWt (jSn (jFin n K V A B M L) k)) s)), .int (nI s)] [] Z 0 0) → K9 98 [.ref 145, .int (nI n), .int (nI (jUn (fun k => jWt (jSn (jFin n K V A B M L) k)) k)), .int (nI k)] [] Y 0 0 := by
    intro p
    induction p with
    | zero =>
      intro k Y s2 f2 fa2 hk e1 e2 e3 e4 kk
      have hks : k = s := by omega
      subst hks
      refine kw_iload_n hB M_analyse_98 rfl ?_
      refine kw_aload_n hB M_analyse_99 rfl ?_
      refine kw_getf hB M_analyse_100 f_M_113 e1.c rfl ?_
      rw [e3]
      refine kn_icmp_ge hB M_analyse_103 (by omega) (by omega) (fun _ => ?_) (fun z => absurd z (by omega))
      exact kk Y fa2 e1 e4 (jfr.rf _ _)
    | succ p ih =>
      intro k Y s2 f2 fa2 hk e1 e2 e3 e4 kk
      have hle := jUn_le (fun k => jWt (jSn (jFin n K V A B M L) k)) k
      refine kw_iload_n hB M_analyse_98 rfl ?_
      refine kw_aload_n hB M_analyse_99 rfl ?_
      refine kw_getf hB M_analyse_100 f_M_113 e1.c rfl ?_
      rw [e3]
      refine kn_icmp_ge hB M_analyse_103 (by omega) (by omega) (fun z => absurd z (by omega)) (fun _ => ?_)
      have eL := e2 k (by omega)
      obtain ⟨st, gd, tb, -, hte⟩ := e1.tr
      have okL := (hte (35 + k) _ (by omega) eL).1
      have hw := jWt_far okL
      refine kw_iload_n hB M_analyse_106 rfl ?_
      refine kw_aload_n hB M_analyse_107 rfl ?_
      refine kw_bipush hB M_analyse_108 (v := nI 35) (by decide) ?_
      refine kw_iload_n hB M_analyse_110 rfl ?_
      refine kn_iadd hB M_analyse_111 ?_
      refine kw_callV hB M_analyse_112 s_M_254 im_M_distances se_M_distances e1.c rfl rfl (As := [.int (nI (35 + k))]) (c_M_distances l D g e1 (by omega) eL e4) rfl (by decide) (Nat.le_of_ble_eq_true rfl) (by omega) (by omega) (fun r X1 hq hl => ?_)
      obtain ⟨rfl, fa3, g1, -, g2⟩ := hq
      have e1' := e1.fr g2 (fun k hk => by rw [List.mem_singleton.mp hk]; decide)
      have nx : ∀ b : Bool, (jWt (jSn (jFin n K V A B M L) k)).isSome = b → K9 124 [.ref 145, .int (nI n), .int (nI (jUn (fun k => jWt (jSn (jFin n K V A B M L) k)) k)), .int (nI k)] [.int (nI (jUn (fun k => jWt (jSn (jFin n K V A B M L) k)) k + b.toNat))] X1 0 0 := by
        intro b hb
        refine kw_istore_n hB M_analyse_124 rfl (by decide) rfl ?_
        refine kn_iinc hB M_analyse_125 rfl (by decide) rfl ?_
        refine kw_goto hB M_analyse_128 ?_
        have : jUn (fun k => jWt (jSn (jFin n K V A B M L) k)) k + b.toNat = jUn (fun k => jWt (jSn (jFin n K V A B M L) k)) (k + 1) := by rw [jUn, hb]
        rw [this]
        exact ih (k + 1) X1 s2 f2 fa3 (by omega) e1' e2 e3 g1 (fun Z fa4 z1 z2 z3 => kk Z fa4 z1 z2 (g2.tr z3))
      have hbd : ∀ m, jFz (jSn (jFin n K V A B M L) k) 0 = some m → m ≤ 96 := fun m hm => Nat.le_succ_of_le (jFar_le hm)
      refine kw_if_lt hB M_analyse_115 (fun z => ?_) (fun z => ?_)
      · have hno := (jen_neg hbd).mp z
        rw [hno] at hw
        have hb : (jWt (jSn (jFin n K V A B M L) k)).isSome = false := by
          cases y : jWt (jSn (jFin n K V A B M L) k) with
          | none => rfl
          | some w => rw [y] at hw; cases hw
        refine kw_iconst hB M_analyse_122 (v := nI 0) (by decide) ?_
        refine kn_iadd hB M_analyse_123 ?_
        exact nx false hb
      · have hno := mt (jen_neg hbd).mpr z
        have hb : (jWt (jSn (jFin n K V A B M L) k)).isSome = true := by
          cases y : jWt (jSn (jFin n K V A B M L) k) with
          | some w => rfl
          | none => rw [y] at hw; exact absurd hw.symm hno
        refine kw_iconst hB M_analyse_118 (v := nI 1) (by decide) ?_
        refine kw_goto hB M_analyse_119 ?_
        refine kn_iadd hB M_analyse_123 ?_
        exact nx true hb
  -- behind the steps
  have b89 : ∀ (Y : ja_H) (hw : Nat) (w : Value), jMz Y sc K σ hw (jFin n K V A B M L) → jDI n K A σ (jFin n K V A B M L) hw → jfr jGs X Y → K9 89 [.ref 145, .int (nI n), w, .retAddr 0] [] Y 0 0 := by
    intro Y hw w hm hI hf
    obtain ⟨s1, f1, md1, rn1, h1, ks1, F1, R1, m1, r1⟩ := hm
    have hwn : hw = n := by
      have a1 := hI.2.1
      have a2 := hI.2.2.1
      rw [fn2] at a1
      omega
    subst hwn
    rw [fn2] at R1
    refine kw_aload_n hB M_analyse_89 rfl ?_
    refine kw_iconst hB M_analyse_90 (v := nI 1) (by decide) ?_
    refine km_put hB M_analyse_91 h1.c f_M_97 jw_M_15 (by decide) rfl rfl rfl ?_
    obtain ⟨h2, g2⟩ := h1.put (s' := upd s1 15 (nI 1))
    have g2' := jset_fr Y 145 (jMo (upd s1 15 (nI 1)))
    generalize Y.set 145 (jMo (upd s1 15 (nI 1))) = Y2 at h2 g2 g2'
    have ks2 : ∀ j, j ≠ 15 → j < 18 ∨ 38 ≤ j → upd s1 15 (nI 1) j = sc j := fun j hj hj2 => by rw [pk_un hj]; exact ks1 j hj2
    have n145 : ∀ k, k ≠ 145 → k ∉ [145] := fun k hk z => hk (List.mem_singleton.mp z)
    have hf2 : jfr jGs X Y2 := hf.tr (jmk_gs g2)
    have hs2 : ∀ k, k < s → f1 (35 + k) = some (jSn (jFin hw K V A B M L) k) := fun k hk => F1.2.2.2 k _ (by omega) (hsk k hk)
    refine kw_iconst hB M_analyse_94 (v := nI 0) (by decide) ?_
    refine kw_istore_n hB M_analyse_95 rfl (by decide) rfl ?_
    refine kw_iconst hB M_analyse_96 (v := nI 0) (by decide) ?_
    refine kw_istore_n hB M_analyse_97 rfl (by decide) rfl ?_
    refine l98 s 0 Y2 (upd s1 15 (nI 1)) f1 fa (by omega) h2 hs2 (by rw [ks2 11 (by decide) (by decide), q11]) (hf2.at (n166 _ (by decide)) h166) (fun Z fa3 z1 z2 z3 => ?_)
    have hfz : jfr jMS X Z := (hf2.mono (fun k hk => jMS_mem.mpr (by rw [jGs_mem] at hk; omega))).tr (z3.mono (fun k hk => jMS_mem.mpr (by have := List.mem_singleton.mp hk; omega)))
    have n6 : ∀ k, k ≠ 166 → k ∉ [166] := fun k hk z => hk (List.mem_singleton.mp z)
    refine kw_iload_n hB M_analyse_131 rfl ?_
    refine kw_iret hF rfl M_analyse_132 ⟨fun z => absurd hz z, fun _ => ⟨rfl, ⟨_, f1, md1, rn1, fa3, z1, ⟨?_, ?_, ?_, pk_us .., ?_, ?_⟩, (hmp.fr hf2 jgs_lo).fr z3 (fun k hk => by have := List.mem_singleton.mp hk; omega), z3.at (n6 _ (by decide)) (g2'.at (n145 _ (by decide)) m1), z3.at (n6 _ (by decide)) (g2'.at (n145 _ (by decide)) r1), z2, (hi.fr hf2 (fun k hk => by rw [jGs_mem] at hk; omega)).fr z3 (fun k hk => by have := List.mem_singleton.mp hk; omega), fun _ => ⟨hs2, fun i hi h7 => R1.2 i hi h7 (by rw [hσ]; intro x hx; cases hx)⟩⟩, hfz⟩⟩ hfz.1
    · rw [ks2 0 (by decide) (by decide), q0]
    · rw [ks2 10 (by decide) (by decide), q10]
    · rw [ks2 11 (by decide) (by decide), q11]
    · rw [ks2 38 (by decide) (by decide), q38]
    · rw [ks2 39 (by decide) (by decide), q39]
  -- the steps
  have l63 : ∀ p m (hw : Nat) (Y : ja_H), m + p = 9000000 → jMz Y sc K σ hw (jIt n K V A B M L jS0 m) → jDI n K A σ (jIt n K V A B M L jS0 m) hw → jAlv (jIt n K V A B M L jS0 m) → jfr jGs X Y → K9 63 [.ref 145, .int (nI (jIt n K V A B M L jS0 m).1), .int (nI m), .retAddr 0] [] Y 0 0 := by
    intro p
    induction p with
    | zero =>
      intro m hw Y hm e1 e2 e3 hf
      have hm9 : m = 9000000 := by omega
      subst hm9
      refine kw_iload_n hB M_analyse_63 rfl ?_
      refine kw_ldc hB M_analyse_64 (v := nI 9000000) (jm 1121 (by decide +kernel) rfl) ?_
      refine kn_icmp_ge hB M_analyse_66 (by decide) (by decide) (fun _ => ?_) (fun z => absurd z (by decide))
      have := b89 Y hw (.int (nI 9000000)) e1 e2 hf
      rw [← fn2] at this
      exact this
    | succ p ih =>
      intro m hw Y hm e1 e2 e3 hf
      have hrd := jIt_rd (n := n) (K := K) (V := V) (A := A) (B := B) (M := M) (L := L) m
      have hfe := jFin_eq (n := n) (K := K) (V := V) (A := A) (B := B) (M := M) (L := L) (i := m) (by omega)
      have hst : jIt n K V A B M L jS0 (m + 1) = jStep n K V A B M L (jIt n K V A B M L jS0 m) := rfl
      have hle : (jIt n K V A B M L jS0 m).1 ≤ n := e2.1
      obtain ⟨s1, f1, md1, rn1, h1, ks1, -⟩ := id e1
      refine kw_iload_n hB M_analyse_63 rfl ?_
      refine kw_ldc hB M_analyse_64 (v := nI 9000000) (jm 1121 (by decide +kernel) rfl) ?_
      refine kn_icmp_ge hB M_analyse_66 (by omega) (by decide) (fun z => absurd z (by omega)) (fun _ => ?_)
      refine kw_iload_n hB M_analyse_69 rfl ?_
      refine kw_aload_n hB M_analyse_70 rfl ?_
      refine kw_getf hB M_analyse_71 f_M_91 h1.c rfl ?_
      rw [ks1 0 (by decide), q0]
      refine kn_icmp_ge hB M_analyse_74 (by omega) (by omega) (fun z => ?_) (fun z => ?_)
      · rw [← hfe z] at e1 e2 ⊢
        have := b89 Y hw (.int (nI m)) e1 e2 hf
        rw [← fn2] at this
        exact this
      · have hl := hf.1
        have s1' := (jStep_ok hS hσ hK hV (B := B) e2 z).1
        have s2' := jGo_aon (B := B) (L := L) e2 z hln hM e3
        have hst2 : jStep n K V A B M L (jIt n K V A B M L jS0 m) = jGo K V A B M L (jIt n K V A B M L jS0 m).1 (jIt n K V A B M L jS0 m).2.1 (jIt n K V A B M L jS0 m).2.2.1 (jIt n K V A B M L jS0 m).2.2.2.1 (jIt n K V A B M L jS0 m).2.2.2.2.1 (jIt n K V A B M L jS0 m).2.2.2.2.2 := if_pos z
        rw [← hst] at s1' s2' hst2
        have hgo := c_M_go l D g (V := V) (A := A) (B := B) (M := M) (L := L) (n := n) e1 (hq.fr hf jgs_lo) hS hσ hln z e2 e3 (fun h => Nat.le_trans (hrd h) (by omega))
        rw [← hst2] at hgo
        refine kw_aload_n hB M_analyse_77 rfl ?_
        refine kw_iload_n hB M_analyse_78 rfl ?_
        refine kw_callV hB M_analyse_79 s_M_251 im_M_go se_M_go h1.c rfl rfl (As := [.int (nI (jIt n K V A B M L jS0 m).1)]) (hgo) rfl (by decide) (Nat.le_of_ble_eq_true rfl) (by omega) (by omega) (fun r X1 hq hl => ?_)
        obtain ⟨rfl, g1, g2⟩ := hq
        refine kw_istore_n hB M_analyse_82 rfl (by decide) rfl ?_
        refine kn_iinc hB M_analyse_83 rfl (by decide) rfl ?_
        refine kw_goto hB M_analyse_86 ?_
        exact ih (m + 1) _ X1 (by omega) g1 s1' s2' (hf.tr g2)
  -- no rounds yet
  have l40 : ∀ p k (Y : ja_H) (s1 : Nat → Int32) (f1 : Nat → Option jLan) (mf1 : Nat → Int32), k + p = 24 → jMe Y s1 f1 → jKs sc s1 → (∀ v, v < 5 → f1 v = some jEps) → Y[158]? = some (.inl (0, 24, .inl mf1)) → Y[159]? = some (.inl (0, 3, .inl rn)) → jfr jGs X Y → K9 40 [.ref 145, .int (nI k), .retAddr 0, .retAddr 0] [] Y 0 0 := by
    intro p
    induction p with
    | zero =>
      intro k Y s1 f1 mf1 hk e1 ks e2 e3 e4 hf
      refine kw_iload_n hB M_analyse_40 rfl ?_
      refine kw_bipush hB M_analyse_41 (v := nI 24) (by decide) ?_
      refine kn_icmp_ge hB M_analyse_43 (by omega) (by decide) (fun _ => ?_) (fun z => absurd z (by omega))
      refine kw_iconst hB M_analyse_59 (v := nI 0) (by decide) ?_
      refine kw_istore_n hB M_analyse_60 rfl (by decide) rfl ?_
      refine kw_iconst hB M_analyse_61 (v := nI 0) (by decide) ?_
      refine kw_istore_n hB M_analyse_62 rfl (by decide) rfl ?_
      refine l63 9000000 0 0 Y (by omega) ⟨s1, f1, mf1, rn, e1, ks, ⟨e2, fun d v L' _ _ hb => (by cases hb), fun d v L' _ _ hb => (by cases hb), fun k L' _ hb => (by cases hb)⟩, ⟨fun a h p t e => ?_, fun h hh => absurd hh (by omega)⟩, e3, e4⟩ (jS0_inv hS) jS0_alv hf
      have e : σ 0 = a ++ (h, p) :: t := e
      rw [hS.1] at e
      cases a <;> cases e
    | succ p ih =>
      intro k Y s1 f1 mf1 hk e1 ks e2 e3 e4 hf
      refine kw_iload_n hB M_analyse_40 rfl ?_
      refine kw_bipush hB M_analyse_41 (v := nI 24) (by decide) ?_
      refine kn_icmp_ge hB M_analyse_43 (by omega) (by decide) (fun z => absurd z (by omega)) (fun _ => ?_)
      refine kw_aload_n hB M_analyse_46 rfl ?_
      refine kw_getf hB M_analyse_47 f_M_47 e1.c rfl ?_
      refine kw_iload_n hB M_analyse_50 rfl ?_
      refine kw_iconst hB M_analyse_51 (v := nI 0) (by decide) ?_
      refine kn_iast hB M_analyse_52 e3 rfl (by omega) (by decide) ?_
      have f4 := jset_fr Y 158 (.inl (0, 24, .inl (upd mf1 k (nI 0))))
      have l158 : 158 < Y.length := (List.getElem?_eq_some_iff.mp e3).1
      have g1 := e1.fr f4 (fun k hk => by rw [List.mem_singleton.mp hk]; decide)
      have g2 : (Y.set 158 (.inl (0, 24, .inl (upd mf1 k (nI 0)))))[158]? = some (.inl (0, 24, .inl (upd mf1 k (nI 0)))) := List.getElem?_set_self l158
      have g3 := f4.at (show 159 ∉ [158] by decide) e4
      refine kn_iinc hB M_analyse_53 rfl (by decide) rfl ?_
      refine kw_goto hB M_analyse_56 ?_
      exact ih (k + 1) _ s1 f1 _ (by omega) g1 ks e2 g2 g3 (hf.tr (f4.mono (fun k hk => by rw [List.mem_singleton.mp hk]; decide)))
  have l11 : ∀ p v (Y : ja_H) (s1 : Nat → Int32) (f1 : Nat → Option jLan), v + p = 5 → jMe Y s1 f1 → jKs sc s1 → (∀ v', v' < v → f1 v' = some jEps) → jfr jMks X Y → K9 11 [.ref 145, .int (nI v), .retAddr 0, .retAddr 0] [] Y 0 0 := by
    intro p
    induction p with
    | zero =>
      intro v Y s1 f1 hv e1 ks e2 hf
      have nm : ∀ k, k = 158 ∨ k = 159 → k ∉ jMks := fun k hk z => by rw [jMks_mem] at z; omega
      refine kw_iload_n hB M_analyse_11 rfl ?_
      refine kw_iconst hB M_analyse_12 (v := nI 5) (by decide) ?_
      refine kn_icmp_ge hB M_analyse_13 (by omega) (by decide) (fun _ => ?_) (fun z => absurd z (by omega))
      refine kw_iconst hB M_analyse_38 (v := nI 0) (by decide) ?_
      refine kw_istore_n hB M_analyse_39 rfl (by decide) rfl ?_
      exact l40 24 0 Y s1 f1 mf (by omega) e1 ks (fun v' hv' => e2 v' (by omega)) (hf.at (nm _ (Or.inl rfl)) h158) (hf.at (nm _ (Or.inr rfl)) h159) (jmk_gs hf)
    | succ p ih =>
      intro v Y s1 f1 hv e1 ks e2 hf
      refine kw_iload_n hB M_analyse_11 rfl ?_
      refine kw_iconst hB M_analyse_12 (v := nI 5) (by decide) ?_
      refine kn_icmp_ge hB M_analyse_13 (by omega) (by decide) (fun z => absurd z (by omega)) (fun _ => ?_)
      refine kw_aload_n hB M_analyse_16 rfl ?_
      refine kw_bipush hB M_analyse_17 (v := nI 6) (by decide) ?_
      refine km_put hB M_analyse_19 e1.c f_M_132 jw_M_18 (by decide) rfl rfl rfl ?_
      obtain ⟨h1, g1⟩ := e1.put (s' := upd s1 18 (nI 6))
      generalize Y.set 145 (jMo (upd s1 18 (nI 6))) = Y1 at h1 g1
      refine kw_aload_n hB M_analyse_22 rfl ?_
      refine kw_iconst hB M_analyse_23 (v := nI 0) (by decide) ?_
      refine km_put hB M_analyse_24 h1.c f_M_129 jw_M_24 (by decide) rfl rfl rfl ?_
      obtain ⟨h2, g2⟩ := h1.put (s' := upd (upd s1 18 (nI 6)) 24 (nI 0))
      generalize Y1.set 145 (jMo (upd (upd s1 18 (nI 6)) 24 (nI 0))) = Y2 at h2 g2
      have ks2 : jKs sc (upd (upd s1 18 (nI 6)) 24 (nI 0)) := (ks.up (by decide)).up (by decide)
      have g12 := g1.tr g2
      have hl2 := g12.1
      have hmk := w_M_make l D g (to := v) (L := jEps) h2 (fun st gd tb he => ⟨_, _, _, _, jRu_WORD l D g (a := 0) (by rw [pk_un (by decide), pk_us]) (pk_us ..) (by decide) (jdg_0 4), (jWord_mk (by decide) (jdg_0 4)).trans (by rw [jmap_0]; rfl)⟩) (by omega) (by omega)
      refine kw_aload_n hB M_analyse_27 rfl ?_
      refine kw_iload_n hB M_analyse_28 rfl ?_
      refine kw_callV hB M_analyse_29 s_M_213 im_M_make se_M_make h2.c rfl rfl (As := [.int (nI v)]) (hmk) rfl (by decide) (Nat.le_of_ble_eq_true rfl) (by omega) (by omega) (fun r X1 hq hl => ?_)
      obtain ⟨rfl, s', r1, r2, r3⟩ := hq
      refine kn_iinc hB M_analyse_32 rfl (by decide) rfl ?_
      refine kw_goto hB M_analyse_35 ?_
      refine ih (v + 1) X1 s' _ (by omega) r1 (ks2.tr r2) (fun v' hv' => ?_) ((hf.tr g12).tr r3)
      by_cases zz : v' = v
      · subst zz; rw [jup_self]
      · rw [jup_ne zz, jup_ne (by omega)]; exact e2 v' (by omega)
  refine kw_iconst hB M_analyse_9 (v := nI 0) (by decide) ?_
  refine kw_istore_n hB M_analyse_10 rfl (by decide) rfl ?_
  exact l11 5 0 X sc f (by omega) he (jKs.rf sc) (fun v' hv' => absurd hv' (by omega)) (jfr.rf _ _)
end JMAN
