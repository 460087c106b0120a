-- the model: behind
section JMR6
variable (l : Launch) (D : va_G) (g : Nat × Nat) {X : ja_H} {n : Nat} {K V A B M L : Nat → Nat} {σ : Nat → List (Nat × Nat)}
set_option maxHeartbeats 8000000 in
set_option maxRecDepth 100000 in
theorem c_M_behind {i : Nat} {sc : Nat → Int32} {vl : Nat → Int64} {val : Nat → Nat} (hcell : X[145]? = some (jMo sc)) (hq : jMq X n K V A B M L) (hS : jSs n K M L σ) (hc : σ n = []) (hln : ∀ i, i < n → jLn (K i) (V i) (A i) (B i)) (hM : ∀ i, i < n → 5 ≤ K i → M i < n) (hi : i < n) (hvl : X[168]? = some (.inl (1, 5, .inr (.inl vl)))) (hv : ∀ j, j < 5 → vl j = lN (val j) ∧ jwv (val j)) :
    AMet l D g 3 0 0 m_M_behind [.ref 145, .int (nI i)] X (fun r X' => r = some (.int (nI (jBh K V A B M i val))) ∧ X' = X) := by
  obtain ⟨wh, on, tw, th, dp, bgn, ol, el, bk, hp, hn24, hl⟩ := hq
  obtain ⟨l1, l2, l3, l4, -, l5, l6, l8, l9, l10⟩ := hl i hi
  obtain ⟨k10, hV, -, -, -, -, -, hW⟩ := hln i hi
  refine ja_metK (by decide) rfl (Nat.le_of_ble_eq_true rfl) fun K9 hB hF => ?_
  have head : K i = 5 ∨ K i = 7 → K9 21 [.ref 145, .int (nI i), .retAddr 0] [] X 0 0 := by
    intro hk
    obtain ⟨w1, w2, w3⟩ := hW hk
    obtain ⟨e1, e2⟩ := hv (V i) hV
    have hb : jBh K V A B M i val = if jmeet (val (V i)) (A i) (B i) then i + 1 else M i + 1 := by unfold jBh; rw [if_pos hk]
    have b55 : K9 55 [.ref 145, .int (nI i), .retAddr 0] [.int (nI (M i))] X 0 0 := by
      refine kw_istore_n hB M_behind_55 rfl (by decide) rfl ?_
      refine kw_aload_n hB M_behind_56 rfl ?_
      refine kw_iload_n hB M_behind_57 rfl ?_
      refine kw_callV hB M_behind_58 s_M_293 im_M_holds se_M_holds hcell rfl rfl (As := [.int (nI i)]) (c_M_holds l D g hcell hp hvl (by omega) l2 l3 l4 hV w1 (by omega) e1 e2) rfl (by decide) (Nat.le_of_ble_eq_true rfl) (by omega) (by omega) (fun r X1 hq hl => ?_)
      obtain ⟨rfl, hxeq⟩ := hq
      obtain rfl := hxeq.symm
      refine kn_if_eq hB M_behind_61 (by cases jmeet (val (V i)) (A i) (B i) <;> decide) (fun z => ?_) (fun z => ?_)
      · refine kw_iload_n hB M_behind_70 rfl ?_
        refine kw_iconst hB M_behind_71 (v := nI 1) (by decide) ?_
        refine kn_iadd hB M_behind_72 ?_
        refine kw_iret hF rfl M_behind_73 ?_ (by first | (simp [jLs_len]; done) | (simp [*]; done))
        exact ⟨by rw [hb, jb_f z]; rfl, rfl⟩
      · refine kw_iload_n hB M_behind_64 rfl ?_
        refine kw_iconst hB M_behind_65 (v := nI 1) (by decide) ?_
        refine kn_iadd hB M_behind_66 ?_
        refine kw_goto hB M_behind_67 ?_
        refine kw_iret hF rfl M_behind_73 ?_ (by first | (simp [jLs_len]; done) | (simp [*]; done))
        exact ⟨by rw [hb, jb_t z]; rfl, rfl⟩
    have b49 : ¬ (K i = 5 ∧ K (M i) = 6) → K9 49 [.ref 145, .int (nI i), .retAddr 0] [] X 0 0 := by
      intro hno
      obtain ⟨m1, m2, m3⟩ := (hS.hd_end hc hi hk).resolve_left hno
      have ee := ((hl (M i) m1).2.2.2.2.2.2.2.1 m2).2
      rw [m3] at ee
      refine kw_aload_n hB M_behind_49 rfl ?_
      refine kw_getf hB M_behind_50 f_M_31 hcell rfl ?_
      refine kw_iload_n hB M_behind_53 rfl ?_
      refine kn_iald hB M_behind_54 hp.2.2.2.2.2.2.2.1 rfl (by omega) (by decide) ?_
      rw [ee]
      exact b55
    refine kw_aload_n hB M_behind_21 rfl ?_
    refine kw_getf hB M_behind_22 f_M_7 hcell rfl ?_
    refine kw_iload_n hB M_behind_25 rfl ?_
    refine kn_iald hB M_behind_26 hp.1 rfl (by omega) (by decide) ?_
    rw [l1, if_neg (by omega)]
    refine kw_iconst hB M_behind_27 (v := nI 5) (by decide) ?_
    refine kn_icmp_ne hB M_behind_28 (by omega) (by decide) (fun z => b49 (fun y => z y.1)) (fun k5 => ?_)
    refine kw_aload_n hB M_behind_31 rfl ?_
    refine kw_getf hB M_behind_32 f_M_28 hcell rfl ?_
    refine kw_iload_n hB M_behind_35 rfl ?_
    refine kn_iald hB M_behind_36 hp.2.2.2.2.2.2.1 rfl (by omega) (by decide) ?_
    rw [l10 k5]
    by_cases k6 : K (M i) = 6
    · rw [if_pos k6]
      have hM31 : M i < 2 ^ 31 := by have := hM i hi (by omega); omega
      refine kw_if_lt hB M_behind_37 (fun z => absurd z (nI_pos hM31)) (fun _ => ?_)
      refine kw_aload_n hB M_behind_40 rfl ?_
      refine kw_getf hB M_behind_41 f_M_28 hcell rfl ?_
      refine kw_iload_n hB M_behind_44 rfl ?_
      refine kn_iald hB M_behind_45 hp.2.2.2.2.2.2.1 rfl (by omega) (by decide) ?_
      rw [l10 k5, if_pos k6]
      refine kw_goto hB M_behind_46 ?_
      exact b55
    · rw [if_neg k6]
      refine kw_if_lt hB M_behind_37 (fun _ => b49 (fun y => k6 y.2)) (fun z => absurd (show (-1 : Int32) < 0 by decide) z)
  refine kw_aload_n hB M_behind_0 rfl ?_
  refine kw_getf hB M_behind_1 f_M_7 hcell rfl ?_
  refine kw_iload_n hB M_behind_4 rfl ?_
  refine kn_iald hB M_behind_5 hp.1 rfl (by omega) (by decide) ?_
  rw [l1]
  refine kw_iconst hB M_behind_6 (v := nI 5) (by decide) ?_
  refine kn_icmp_eq hB M_behind_7 (by split <;> omega) (by decide) (fun z => head (by split at z <;> omega)) (fun z5 => ?_)
  refine kw_aload_n hB M_behind_10 rfl ?_
  refine kw_getf hB M_behind_11 f_M_7 hcell rfl ?_
  refine kw_iload_n hB M_behind_14 rfl ?_
  refine kn_iald hB M_behind_15 hp.1 rfl (by omega) (by decide) ?_
  rw [l1]
  refine kw_bipush hB M_behind_16 (v := nI 7) (by decide) ?_
  refine kn_icmp_ne hB M_behind_18 (by split <;> omega) (by decide) (fun z7 => ?_) (fun z => head (by split at z <;> omega))
  have n57 : ¬ (K i = 5 ∨ K i = 7) := fun y => by
    rcases y with y | y
    · rw [y] at z5; exact z5 rfl
    · rw [y] at z7; exact z7 rfl
  refine kw_aload_n hB M_behind_74 rfl ?_
  refine kw_getf hB M_behind_75 f_M_7 hcell rfl ?_
  refine kw_iload_n hB M_behind_78 rfl ?_
  refine kn_iald hB M_behind_79 hp.1 rfl (by omega) (by decide) ?_
  rw [l1]
  refine kw_bipush hB M_behind_80 (v := nI 6) (by decide) ?_
  refine kn_icmp_ne hB M_behind_82 (by split <;> omega) (by decide) (fun z6 => ?_) (fun z6 => ?_)
  rotate_left
  · have k6 : K i = 6 := by split at z6 <;> omega
    obtain ⟨m1, m2⟩ := hS.ot_end hc hi k6
    have ee := ((hl (M i) m1).2.2.2.2.2.2.2.1 m2).2
    have mm : M (M i) < n := hM (M i) m1 (by omega)
    refine kw_aload_n hB M_behind_85 rfl ?_
    refine kw_getf hB M_behind_86 f_M_31 hcell rfl ?_
    refine kw_aload_n hB M_behind_89 rfl ?_
    refine kw_getf hB M_behind_90 f_M_25 hcell rfl ?_
    refine kw_iload_n hB M_behind_93 rfl ?_
    refine kn_iald hB M_behind_94 hp.2.2.2.2.2.1 rfl (by omega) (by decide) ?_
    rw [l6 k6]
    refine kn_iald hB M_behind_95 hp.2.2.2.2.2.2.2.1 rfl (by omega) (by decide) ?_
    rw [ee]
    refine kw_iconst hB M_behind_96 (v := nI 1) (by decide) ?_
    refine kn_iadd hB M_behind_97 ?_
    refine kw_iret hF rfl M_behind_98 ?_ (by first | (simp [jLs_len]; done) | (simp [*]; done))
    exact ⟨by unfold jBh; rw [if_neg n57, if_pos k6], rfl⟩
  have n6 : K i ≠ 6 := fun y => z6 (by rw [y]; rfl)
  have go : K i ≠ 9 → K9 135 [.ref 145, .int (nI i), .retAddr 0] [] X 0 0 := by
    intro n9
    refine kw_iload_n hB M_behind_135 rfl ?_
    refine kw_iconst hB M_behind_136 (v := nI 1) (by decide) ?_
    refine kn_iadd hB M_behind_137 ?_
    refine kw_iret hF rfl M_behind_138 ?_ (by first | (simp [jLs_len]; done) | (simp [*]; done))
    exact ⟨by unfold jBh; rw [if_neg n57, if_neg n6, if_neg n9], rfl⟩
  refine kw_aload_n hB M_behind_99 rfl ?_
  refine kw_getf hB M_behind_100 f_M_7 hcell rfl ?_
  refine kw_iload_n hB M_behind_103 rfl ?_
  refine kn_iald hB M_behind_104 hp.1 rfl (by omega) (by decide) ?_
  rw [l1]
  refine kw_bipush hB M_behind_105 (v := nI 8) (by decide) ?_
  refine kn_icmp_ne hB M_behind_107 (by split <;> omega) (by decide) (fun z8 => go (fun y => z8 (by rw [y]; rfl))) (fun z8 => ?_)
  have k8 : 8 ≤ K i := by split at z8 <;> omega
  have m0 := hM i hi (by omega)
  have hd : (K i = 8 → K (M i) = 5) ∧ (K i = 9 → K (M i) = 7) := by
    rcases hS.2 i hi with ⟨k, e⟩ | ⟨k, e, e2, e3⟩ | ⟨k, h0, t0, e1, e2, e3, e4⟩ | ⟨k, h0, p0, t0, e1, e2, e3, e4, e5, e6⟩ | ⟨k, h0, t0, e1, e2, e3, e4, e5, e6⟩
    · omega
    · omega
    · omega
    · rw [e4]; exact ⟨fun _ => e2, fun y => by omega⟩
    · rw [e4]; exact ⟨fun y => by omega, fun _ => e2⟩
  have wm := (hl (M i) m0).1
  refine kw_aload_n hB M_behind_110 rfl ?_
  refine kw_getf hB M_behind_111 f_M_7 hcell rfl ?_
  refine kw_aload_n hB M_behind_114 rfl ?_
  refine kw_getf hB M_behind_115 f_M_25 hcell rfl ?_
  refine kw_iload_n hB M_behind_118 rfl ?_
  refine kn_iald hB M_behind_119 hp.2.2.2.2.2.1 rfl (by omega) (by decide) ?_
  rw [(l8 k8).1]
  refine kn_iald hB M_behind_120 hp.1 rfl (by omega) (by decide) ?_
  rw [wm, if_neg (by omega)]
  refine kw_bipush hB M_behind_121 (v := nI 7) (by decide) ?_
  refine kn_icmp_ne hB M_behind_123 (by omega) (by decide) (fun z9 => go (fun y => z9 (hd.2 y))) (fun z9 => ?_)
  have k9 : K i = 9 := by
    refine Classical.byContradiction fun y => ?_
    have := hd.1 (by omega)
    omega
  refine kw_aload_n hB M_behind_126 rfl ?_
  refine kw_getf hB M_behind_127 f_M_25 hcell rfl ?_
  refine kw_iload_n hB M_behind_130 rfl ?_
  refine kn_iald hB M_behind_131 hp.2.2.2.2.2.1 rfl (by omega) (by decide) ?_
  rw [(l8 k8).1]
  refine kw_goto hB M_behind_132 ?_
  refine kw_iret hF rfl M_behind_138 ?_ (by first | (simp [jLs_len]; done) | (simp [*]; done))
  exact ⟨by unfold jBh; rw [if_neg n57, if_neg n6, if_pos k9], rfl⟩
end JMR6
