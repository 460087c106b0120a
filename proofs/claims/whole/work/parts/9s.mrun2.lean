-- the model: run itself
section JMRR
variable (l : Launch) (D : va_G) (g : Nat × Nat) {X : ja_H} {n s hn : Nat} {K V A B M L ip wd pl : Nat → Nat} {σ : Nat → List (Nat × Nat)} {md : Bool} {ed : Int32}
set_option maxHeartbeats 8000000 in
set_option maxRecDepth 100000 in
theorem c_M_run {x : Int32} (h : jMdl X n s K V A B M L σ md ip wd pl hn ed) (hP : jPP n s K V A B M L σ) (hM : σ n = [] → ∀ i, i < n → 5 ≤ K i → M i < n) : AMet l D g 4 0 0 m_M_run [.ref 145, .int x] X (fun r X' => ((jin 1001 x && decide (jv x ≠ 0) && decide ((σ n).length = 0)) = true → ∃ (o : Option Nat) (val : Nat → Nat) (hn' : Nat) (wd' pl' : Nat → Nat), jNk K V A B M ip n (jv x) (some 0) (fun _ => 0, 0, wd, pl) = (o, val, hn', wd', pl') ∧ r = some (.int (nI hn')) ∧ jMdl X' n s K V A B M L σ md ip wd' pl' hn' (nI (jNe n o)) ∧ jfr jMS X X') ∧ ((jin 1001 x && decide (jv x ≠ 0) && decide ((σ n).length = 0)) = false → r = some (.int (-1)) ∧ X' = X)) := by
  have hl3 := hP.2.2.1.len (Nat.le_refl n)
  have hn24 := hP.1
  have hln := hP.2.2.2.2.2
  obtain ⟨sc0, c0, ⟨s0, s10, s38, s39⟩, -, hmi0, re0⟩ := h.re
  refine ja_metK (by decide) rfl (Nat.le_of_ble_eq_true rfl) fun K9 hB hF => ?_
  have no : (jin 1001 x && decide (jv x ≠ 0) && decide ((σ n).length = 0)) = false → K9 19 [.ref 145, .int x, .retAddr 0, .retAddr 0] [] X 0 0 := by
    intro hno
    refine kw_iconst hB M_run_19 (v := -1) (by decide) ?_
    refine kw_iret hF rfl M_run_20 ?_ (by first | (simp [jLs_len]; done) | (simp [*]; done))
    exact ⟨fun z => absurd (hno.symm.trans z) (by decide), fun _ => ⟨rfl, rfl⟩⟩
  refine kw_iload_n hB M_run_0 rfl ?_
  refine kw_iconst hB M_run_1 (v := nI 1) (by decide) ?_
  refine kw_icmp_lt hB M_run_2 (fun hc => no ?_) (fun hc => ?_)
  · by_cases hn0 : x < 0
    · rw [jin_neg hn0]; rfl
    · obtain ⟨z, hz, rfl⟩ := nI_of hn0
      have hz3 : z < 1 := (nI_ltI hz (by decide)).mp hc
      rw [jv_nI hz, show z = 0 by omega]; simp
  obtain ⟨z, hzz, rfl⟩ : ∃ j, j < 2 ^ 31 ∧ x = nI j := nI_of (fun hn0 => hc (by
    have b1 := Int32.lt_iff_toInt_lt.mp hn0
    have b0 : (0 : Int32).toInt = 0 := by decide
    have b2 : (nI 1).toInt = 1 := by decide
    exact Int32.lt_iff_toInt_lt.mpr (by omega)))
  have hz1 : ¬ z < 1 := fun q => hc ((nI_ltI hzz (by decide)).mpr q)
  rw [jin_nI hzz, jv_nI hzz] at hF no
  refine kw_iload_n hB M_run_5 rfl ?_
  refine kw_sipush hB M_run_6 (v := nI 1000) (by decide) ?_
  refine kn_icmp_gt hB M_run_9 (by omega) (by decide) (fun h1 => no ?_) (fun h1 => ?_)
  · rw [decide_eq_false (show ¬ z < 1001 by omega)]; rfl
  refine kw_aload_n hB M_run_12 rfl ?_
  refine kw_getf hB M_run_13 f_M_94 c0 rfl ?_
  rw [s10]
  refine kw_if_le hB M_run_16 (fun hc => ?_) (fun hc => no ?_)
  case refine_2 =>
    have hz : (σ n).length ≠ 0 := fun z => hc (by rw [z]; decide)
    rw [decide_eq_false hz, Bool.and_false]
  have hz : (σ n).length = 0 := by have := (nI_leI (b := 0) (by omega) (by decide)).mp hc; omega
  have hσ : σ n = [] := List.eq_nil_of_length_eq_zero hz
  have hok : (decide (z < 1001) && decide (z ≠ 0) && decide ((σ n).length = 0)) = true := by rw [decide_eq_true (show z < 1001 by omega), decide_eq_true (show z ≠ 0 by omega), decide_eq_true hz]; rfl
  have hMn := hM hσ
  have mS : ∀ k ∈ [145, 168, 169, 170], k ∈ jMS := fun k hk => by rw [jMS_mem]; simp only [List.mem_cons, List.not_mem_nil, or_false] at hk; omega
  have f145 : ∀ (Y : ja_H) (c : ja_C), jfr [145, 168, 169, 170] Y (Y.set 145 c) := fun Y c => (jset_fr Y 145 c).mono (fun k hk => by rw [List.mem_singleton.mp hk]; decide)
  have f168 : ∀ (Y : ja_H) (c : ja_C), jfr [145, 168, 169, 170] Y (Y.set 168 c) := fun Y c => (jset_fr Y 168 c).mono (fun k hk => by rw [List.mem_singleton.mp hk]; decide)
  have n145 : ∀ k, k ≠ 145 → k ∉ [145] := fun k hk z => hk (List.mem_singleton.mp z)
  have n168 : ∀ k, k ≠ 168 → k ∉ [168] := fun k hk z => hk (List.mem_singleton.mp z)
  -- the values and the scalars change, the rest stays
  have put : ∀ (Y : ja_H) (hn : Nat) (wd pl : Nat → Nat) (e e' : Int32) (sc : Nat → Int32) (c : ja_C), jMi Y ip wd pl hn → jMi (Y.set 145 c) ip wd pl hn := fun Y hn wd pl e e' sc c hi => hi.fr (jset_fr Y 145 c) (fun k hk => by have := List.mem_singleton.mp hk; omega)
  have fin : ∀ (o : Option Nat) (val : Nat → Nat) (hn' : Nat) (wd' pl' : Nat → Nat) (kk used : Nat) (Y : ja_H), jMdl Y n s K V A B M L σ md ip wd' pl' hn' (nI (jNe n o)) → jfr jMS X Y → jNk K V A B M ip n z (some 0) (fun _ => 0, 0, wd, pl) = (o, val, hn', wd', pl') → K9 136 [.ref 145, .int (nI z), .int (nI kk), .int (nI used)] [] Y 0 0 := by
    intro o val hn' wd' pl' kk used Y hy ey hk
    obtain ⟨sc, c, ⟨s0, s10, s38, s39⟩, -, -, -⟩ := hy.re
    refine kw_aload_n hB M_run_136 rfl ?_
    refine kw_getf hB M_run_137 f_M_296 c rfl ?_
    rw [s39]
    refine kw_iret hF rfl M_run_140 ⟨fun _ => ⟨o, val, hn', wd', pl', hk, rfl, hy, ey⟩, fun q => absurd (hok.symm.trans q) (by decide)⟩ ey.1
  have out : ∀ (o : Option Nat) (val : Nat → Nat) (hn' : Nat) (wd' pl' : Nat → Nat) (kk used : Nat) (Y : ja_H), jNe n o ≠ 0 → jNe n o < 3 → kk < 2 ^ 30 → jMdl Y n s K V A B M L σ md ip wd' pl' hn' (nI (jNe n o)) → jfr jMS X Y → jNk K V A B M ip n z (some 0) (fun _ => 0, 0, wd, pl) = (o, val, hn', wd', pl') → K9 130 [.ref 145, .int (nI z), .int (nI kk), .int (nI used)] [] Y 0 0 := by
    intro o val hn' wd' pl' kk used Y h0 h3 hkk hy ey hk
    have fin' := fin o val hn' wd' pl' kk (used + 1) Y hy ey hk
    obtain ⟨sc, c, ⟨s0, s10, s38, s39⟩, -, -, -⟩ := hy.re
    refine kn_iinc hB M_run_130 rfl (by decide) rfl ?_
    refine kw_goto hB M_run_133 ?_
    refine kw_iload_n hB M_run_55 rfl ?_
    refine kw_aload_n hB M_run_56 rfl ?_
    refine kw_getf hB M_run_57 f_M_91 c rfl ?_
    rw [s0]
    refine kn_icmp_ge hB M_run_60 (by omega) (by omega) (fun _ => fin') (fun _ => ?_)
    refine kw_aload_n hB M_run_63 rfl ?_
    refine kw_getf hB M_run_64 f_M_81 c rfl ?_
    rw [s38]
    exact kn_if_ne hB M_run_67 (by omega) (fun _ => fin') (fun q => absurd q h0)
  have loop : ∀ k used i (val : Nat → Nat) (hn : Nat) (wd' pl' : Nat → Nat) (Y : ja_H), used + k = z → i ≤ n → jMdl Y n s K V A B M L σ md ip wd' pl' hn (nI 0) → jVs Y val → jfr jMS X Y → hn ≤ used → jNk K V A B M ip n z (some 0) (fun _ => 0, 0, wd, pl) = jNk K V A B M ip n k (some i) (val, hn, wd', pl') → K9 55 [.ref 145, .int (nI z), .int (nI i), .int (nI used)] [] Y 0 0 := by
    intro k
    induction k with
    | zero =>
      intro used i val hn wd' pl' Y hu hin hy hv ey hle hk
      obtain ⟨sc, c, ⟨s0, s10, s38, s39⟩, -, hmi, re⟩ := hy.re
      refine kw_iload_n hB M_run_55 rfl ?_
      refine kw_aload_n hB M_run_56 rfl ?_
      refine kw_getf hB M_run_57 f_M_91 c rfl ?_
      rw [s0]
      refine kn_icmp_ge hB M_run_60 (by omega) (by omega) (fun hc => ?_) (fun hc => ?_)
      · exact fin (some i) val hn wd' pl' i used Y (by simp only [jNe]; rw [if_neg (by omega)]; exact hy) ey (by rw [hk, jNk])
      refine kw_aload_n hB M_run_63 rfl ?_
      refine kw_getf hB M_run_64 f_M_81 c rfl ?_
      rw [s38]
      refine kn_if_ne hB M_run_67 (by omega) (fun q => absurd rfl q) (fun _ => ?_)
      refine kw_iload_n hB M_run_70 rfl ?_
      refine kw_iload_n hB M_run_71 rfl ?_
      refine kn_icmp_ne hB M_run_72 (by omega) (by omega) (fun q => absurd (by omega) q) (fun _ => ?_)
      refine kw_aload_n hB M_run_75 rfl ?_
      refine kw_iconst hB M_run_76 (v := nI 1) (by decide) ?_
      refine km_put hB M_run_77 c f_M_81 jw_M_38 (by decide) rfl rfl rfl ?_
      refine kw_goto hB M_run_80 ?_
      have e1 : jNe n (some i) = 1 := by simp only [jNe]; rw [if_pos hc]
      refine out (some i) val hn wd' pl' i used _ (by rw [e1]; decide) (by rw [e1]; decide) (by omega) ?_ (ey.tr ((f145 _ _).mono mS)) (by rw [hk, jNk])
      rw [e1]
      exact re _ _ _ _ _ _ (List.getElem?_set_self (List.getElem?_eq_some_iff.mp c).1) ⟨rfl, rfl, rfl, rfl, rfl, s39⟩ (f145 _ _) (put Y hn wd' pl' 0 0 sc _ hmi)
    | succ k ih =>
      intro used i val hn wd' pl' Y hu hin hy hv ey hle hk
      obtain ⟨sc, c, ⟨s0, s10, s38, s39⟩, hmp, hmi, re⟩ := hy.re
      obtain ⟨vl, v1, v2⟩ := id hv
      have hmq := hmp.mq hP hσ
      obtain ⟨wh, on, tw, th, dp, bg, ol, el, bk, hp, hl, -, -⟩ := hmp
      obtain ⟨ipf, plf, wdf, vlf, i0, -, i2, i3, i4, i5⟩ := id hmi
      refine kw_iload_n hB M_run_55 rfl ?_
      refine kw_aload_n hB M_run_56 rfl ?_
      refine kw_getf hB M_run_57 f_M_91 c rfl ?_
      rw [s0]
      refine kn_icmp_ge hB M_run_60 (by omega) (by omega) (fun hc => ?_) (fun hc => ?_)
      · exact fin (some i) val hn wd' pl' i used Y (by simp only [jNe]; rw [if_neg (by omega)]; exact hy) ey (by rw [hk, jNk, if_neg (by omega)])
      obtain ⟨l1, l2, l3, l4, -⟩ := hl i hc
      have lni := hln i hc
      rw [jNk, if_pos hc] at hk
      refine kw_aload_n hB M_run_63 rfl ?_
      refine kw_getf hB M_run_64 f_M_81 c rfl ?_
      rw [s38]
      refine kn_if_ne hB M_run_67 (by omega) (fun q => absurd rfl q) (fun _ => ?_)
      refine kw_iload_n hB M_run_70 rfl ?_
      refine kw_iload_n hB M_run_71 rfl ?_
      refine kn_icmp_ne hB M_run_72 (by omega) (by omega) (fun _ => ?_) (fun q => absurd q (by omega))
      have hw : (if K i = 9 then 8 else K i) < 10 := by have := lni.1; split <;> omega
      -- behind
      have bh : ∀ (val' : Nat → Nat) (hn' : Nat) (wd2 pl2 : Nat → Nat) (Z : ja_H), hn' ≤ used + 1 → jMdl Z n s K V A B M L σ md ip wd2 pl2 hn' (nI 0) → jVs Z val' → jfr jMS X Z → jN1 K V A B M ip i (val, hn, wd', pl') = (some (jBh K V A B M i val'), val', hn', wd2, pl2) → K9 124 [.ref 145, .int (nI z), .int (nI i), .int (nI used)] [] Z 0 0 := by
        intro val' hn' wd2 pl2 Z hle' hz hvz ez hj
        obtain ⟨scz, cz, -, hmpz, -, -⟩ := hz.re
        obtain ⟨vlz, vz1, vz2⟩ := id hvz
        refine kw_aload_n hB M_run_124 rfl ?_
        refine kw_iload_n hB M_run_125 rfl ?_
        refine kw_callV hB M_run_126 s_M_305 im_M_behind se_M_behind cz rfl rfl (As := [.int (nI i)]) (c_M_behind l D g cz (hmpz.mq hP hσ) hP.2.2.1 hσ hln hMn hc vz1 vz2) rfl (by decide) (Nat.le_of_ble_eq_true rfl) (by omega) (by omega) (fun r X1 hq hl => ?_)
        obtain ⟨rfl, hxeq⟩ := hq
        obtain rfl := hxeq.symm
        refine kw_istore_n hB M_run_129 rfl (by decide) rfl ?_
        refine kn_iinc hB M_run_130 rfl (by decide) rfl ?_
        refine kw_goto hB M_run_133 ?_
        refine ih (used + 1) _ val' hn' wd2 pl2 Z (by omega) (jBh_le hc (hMn i hc)) hz hvz ez hle' ?_
        rw [hk, hj]
      have p109 : ∀ (val' : Nat → Nat) (Z : ja_H), K i < 4 → jMdl Z n s K V A B M L σ md ip wd' pl' hn (nI 0) → jVs Z val' → jfr jMS X Z → jN1 K V A B M ip i (val, hn, wd', pl') = (some (i + 1), val', hn, wd', pl') → K9 109 [.ref 145, .int (nI z), .int (nI i), .int (nI used)] [] Z 0 0 := by
        intro val' Z hk4 hz hvz ez hj
        obtain ⟨scz, cz, -, hmpz, -, -⟩ := hz.re
        obtain ⟨wh', on', tw', th', dp', bg', ol', el', bk', hp', hl', -, -⟩ := hmpz
        refine kw_aload_n hB M_run_109 rfl ?_
        refine kw_getf hB M_run_110 f_M_7 cz rfl ?_
        refine kw_iload_n hB M_run_113 rfl ?_
        refine kn_iald hB M_run_114 hp'.1 rfl (by omega) (by decide) ?_
        rw [(hl' i hc).1]
        refine kw_iconst hB M_run_115 (v := nI 4) (by decide) ?_
        refine kn_icmp_ne hB M_run_116 (by omega) (by decide) (fun _ => ?_) (fun q => absurd q (by rw [if_neg (by omega)]; omega))
        exact bh val' hn wd' pl' Z (by omega) hz hvz ez (by rw [hj, jBh_lt (by omega)])
      refine kw_aload_n hB M_run_83 rfl ?_
      refine kw_getf hB M_run_84 f_M_7 c rfl ?_
      refine kw_iload_n hB M_run_87 rfl ?_
      refine kn_iald hB M_run_88 hp.1 rfl (by omega) (by decide) ?_
      rw [l1]
      refine kw_iconst hB M_run_89 (v := nI 4) (by decide) ?_
      refine kn_icmp_ge hB M_run_90 (by omega) (by decide) (fun q => ?_) (fun q => ?_)
      · have hk4 : 4 ≤ K i := by have := lni.1; split at q <;> omega
        refine kw_aload_n hB M_run_109 rfl ?_
        refine kw_getf hB M_run_110 f_M_7 c rfl ?_
        refine kw_iload_n hB M_run_113 rfl ?_
        refine kn_iald hB M_run_114 hp.1 rfl (by omega) (by decide) ?_
        rw [l1]
        refine kw_iconst hB M_run_115 (v := nI 4) (by decide) ?_
        refine kn_icmp_ne hB M_run_116 (by omega) (by decide) (fun q4 => ?_) (fun q4 => ?_)
        · exact bh val hn wd' pl' Y (by omega) hy hv ey (jN1_bh (by split at q4 <;> omega))
        · have hk4' : K i = 4 := by split at q4 <;> omega
          obtain ⟨x1, x2⟩ := v2 (V i) lni.2.1
          refine kw_aload_n hB M_run_119 rfl ?_
          refine kw_iload_n hB M_run_120 rfl ?_
          refine kw_callV hB M_run_121 s_M_302 im_M_hand se_M_hand c rfl rfl (As := [.int (nI i)]) (c_M_hand l D g (x := val (V i)) c s39 (by omega) hp v1 i2 i3 (by omega) l2 l3 lni.2.1 x1) rfl (by decide) (Nat.le_of_ble_eq_true rfl) (by omega) (by omega) (fun r X1 hq hl => ?_)
          obtain ⟨rfl, hX1⟩ := hq
          obtain ⟨m1, m2, m3, m4⟩ := jMi.hand (ip := ip) (wd := wd') (pl := pl') i0 v1 i2 i3 i4 i5 hX1
          exact bh val (hn + 1) _ _ X1 (by omega) (re X1 _ _ _ _ _ m2 ⟨rfl, rfl, rfl, rfl, s38, rfl⟩ m4 m1) ⟨vl, m3, v2⟩ (ey.tr (m4.mono mS)) (by rw [jN1_hand hk4', jBh_lt (by omega)])
      · have hk4 : K i < 4 := by have := lni.1; split at q <;> omega
        rw [if_neg (by omega)] at l1
        have hips : ∀ j, j < 3 → jdg 4 (ip j) ∧ ip j < 2 ^ 24 := fun j hj => (i4 j hj).2
        have hj1 := jN1_do (M := M) (val := val) (hn := hn) (wd := wd') (pl := pl') lni hk4 hips
        refine kw_aload_n hB M_run_93 rfl ?_
        refine kw_iload_n hB M_run_94 rfl ?_
        refine kw_callV hB M_run_95 s_M_299 im_M_does se_M_does c rfl rfl (As := [.int (nI i)]) (c_M_does l D g c hp i0 v1 (by omega) l1 l2 l3 l4 hk4 lni i4 v2) rfl (by decide) (Nat.le_of_ble_eq_true rfl) (by omega) (by omega) (fun r X1 hq hl => ?_)
        by_cases hov : jDo (K i) (A i) (B i) ip val = jOV
        · obtain ⟨rfl, rfl⟩ := hq.1 hov
          rw [if_pos hov] at hj1
          refine kn_if_ne hB M_run_98 (by decide) (fun q => absurd rfl q) (fun _ => ?_)
          refine kw_aload_n hB M_run_101 rfl ?_
          refine kw_iconst hB M_run_102 (v := nI 2) (by decide) ?_
          refine km_put hB M_run_103 c f_M_81 jw_M_38 (by decide) rfl rfl rfl ?_
          refine kw_goto hB M_run_106 ?_
          refine out none val hn wd' pl' i used _ (show (2 : Nat) ≠ 0 by decide) (show (2 : Nat) < 3 by decide) (by omega) ?_ (ey.tr ((f145 _ _).mono mS)) (by rw [hk, hj1]; cases k <;> rfl)
          exact re _ _ _ _ _ _ (List.getElem?_set_self (List.getElem?_eq_some_iff.mp c).1) ⟨rfl, rfl, rfl, rfl, rfl, s39⟩ (f145 _ _) (put _ hn wd' pl' 0 0 sc _ hmi)
        · obtain ⟨rfl, hX1⟩ := hq.2 hov
          rw [if_neg hov] at hj1
          refine kn_if_ne hB M_run_98 (by decide) (fun _ => ?_) (fun q => absurd q (by decide))
          have l168 : 168 < Y.length := (List.getElem?_eq_some_iff.mp v1).1
          have g1 := jset_fr Y 168 (.inl (1, 5, .inr (.inl (vp_updL vl (V i) (lN (jDo (K i) (A i) (B i) ip val))))))
          rw [← hX1] at g1
          have g168 : X1[168]? = some (.inl (1, 5, .inr (.inl (vp_updL vl (V i) (lN (jDo (K i) (A i) (B i) ip val)))))) := by rw [hX1]; exact List.getElem?_set_self l168
          have g4 : jfr [145, 168, 169, 170] Y X1 := by rw [hX1]; exact f168 _ _
          refine p109 _ X1 hk4 (re X1 sc _ hn wd' pl' (g1.at (n168 _ (by decide)) c) ⟨rfl, rfl, rfl, rfl, s38, s39⟩ g4 ⟨ipf, plf, wdf, _, g1.at (n168 _ (by decide)) i0, g168, g1.at (n168 _ (by decide)) i2, g1.at (n168 _ (by decide)) i3, i4, i5⟩) ⟨_, g168, fun j hj => ?_⟩ (ey.tr (g4.mono mS)) hj1
          by_cases zj : j = V i
          · subst zj; rw [pk_uLs, jup_self]; exact ⟨rfl, jDo_wv lni hk4 hips (fun j hj => (v2 j hj).2) hov⟩
          · rw [pk_uLn zj, jup_ne zj]; exact v2 j hj
  -- the values are emptied
  have zero : ∀ m v, v + m = 5 → ∀ (Y : ja_H) (vl : Nat → Int64), Y[168]? = some (.inl (1, 5, .inr (.inl vl))) → (∀ j, j < v → vl j = lN 0) → jfr [168] X Y → K9 23 [.ref 145, .int (nI z), .int (nI v), .retAddr 0] [] Y 0 0 := by
    intro m
    induction m with
    | zero =>
      intro v hv Y vl h1 h2 hf
      have c := hf.at (n168 145 (by decide)) c0
      refine kw_iload_n hB M_run_23 rfl ?_
      refine kw_iconst hB M_run_24 (v := nI 5) (by decide) ?_
      refine kn_icmp_ge hB M_run_25 (by omega) (by decide) (fun _ => ?_) (fun q => absurd q (by omega))
      refine kw_aload_n hB M_run_41 rfl ?_
      refine kw_iconst hB M_run_42 (v := nI 0) (by decide) ?_
      refine km_put hB M_run_43 c f_M_296 jw_M_39 (by decide) rfl rfl rfl ?_
      have l145 : 145 < Y.length := (List.getElem?_eq_some_iff.mp c).1
      have c1 : (Y.set 145 (jMo (upd sc0 39 (nI 0))))[145]? = some (jMo (upd sc0 39 (nI 0))) := List.getElem?_set_self l145
      have g1 : jfr [145, 168, 169, 170] X (Y.set 145 (jMo (upd sc0 39 (nI 0)))) := (hf.mono (fun k hk => by rw [List.mem_singleton.mp hk]; decide)).tr (f145 _ _)
      have h168 : (Y.set 145 (jMo (upd sc0 39 (nI 0))))[168]? = some (.inl (1, 5, .inr (.inl vl))) := by rw [List.getElem?_set_ne (by decide)]; exact h1
      have q1 : ∀ k, k ≠ 168 → k ≠ 145 → (Y.set 145 (jMo (upd sc0 39 (nI 0))))[k]? = X[k]? := fun k a b => by rw [List.getElem?_set_ne (Ne.symm b)]; exact hf.2 k (n168 k a)
      generalize Y.set 145 (jMo (upd sc0 39 (nI 0))) = Y1 at c1 g1 h168 q1
      refine kw_aload_n hB M_run_46 rfl ?_
      refine kw_iconst hB M_run_47 (v := nI 0) (by decide) ?_
      refine km_put hB M_run_48 c1 f_M_81 jw_M_38 (by decide) rfl rfl rfl ?_
      refine kw_iconst hB M_run_51 (v := nI 0) (by decide) ?_
      refine kw_istore_n hB M_run_52 rfl (by decide) rfl ?_
      refine kw_iconst hB M_run_53 (v := nI 0) (by decide) ?_
      refine kw_istore_n hB M_run_54 rfl (by decide) rfl ?_
      have l1 : 145 < Y1.length := (List.getElem?_eq_some_iff.mp c1).1
      have c2 : (Y1.set 145 (jMo (upd (upd sc0 39 (nI 0)) 38 (nI 0))))[145]? = some (jMo (upd (upd sc0 39 (nI 0)) 38 (nI 0))) := List.getElem?_set_self l1
      have g2 : jfr [145, 168, 169, 170] X (Y1.set 145 (jMo (upd (upd sc0 39 (nI 0)) 38 (nI 0)))) := g1.tr (f145 _ _)
      have h168' : (Y1.set 145 (jMo (upd (upd sc0 39 (nI 0)) 38 (nI 0))))[168]? = some (.inl (1, 5, .inr (.inl vl))) := by rw [List.getElem?_set_ne (by decide)]; exact h168
      have h167 : ∀ k, k ≠ 168 → k ≠ 145 → (Y1.set 145 (jMo (upd (upd sc0 39 (nI 0)) 38 (nI 0))))[k]? = X[k]? := fun k a b => by rw [List.getElem?_set_ne (Ne.symm b)]; exact q1 k a b
      generalize Y1.set 145 (jMo (upd (upd sc0 39 (nI 0)) 38 (nI 0))) = Y2 at c2 g2 h168' h167
      obtain ⟨ipf, plf, wdf, vlf, i0, i1, i2, i3, i4, i5⟩ := hmi0
      refine loop z 0 0 (fun _ => 0) 0 wd pl Y2 (by omega) (by omega) (re0 Y2 _ _ _ _ _ c2 ⟨rfl, rfl, rfl, rfl, rfl, rfl⟩ g2 ⟨ipf, plf, wdf, vl, by rw [h167 _ (by decide) (by decide)]; exact i0, h168', by rw [h167 _ (by decide) (by decide)]; exact i2, by rw [h167 _ (by decide) (by decide)]; exact i3, i4, fun i _ hi => absurd hi (by omega)⟩) ⟨vl, h168', fun j hj => ⟨h2 j (by omega), jdg_0 8, Nat.two_pow_pos 60⟩⟩ (g2.mono mS) (by omega) rfl
    | succ m ih =>
      intro v hv Y vl h1 h2 hf
      have c := hf.at (n168 145 (by decide)) c0
      refine kw_iload_n hB M_run_23 rfl ?_
      refine kw_iconst hB M_run_24 (v := nI 5) (by decide) ?_
      refine kn_icmp_ge hB M_run_25 (by omega) (by decide) (fun q => absurd q (by omega)) (fun _ => ?_)
      refine kw_aload_n hB M_run_28 rfl ?_
      refine kw_getf hB M_run_29 f_M_77 c rfl ?_
      refine kw_iload_n hB M_run_32 rfl ?_
      refine kw_lconst hB M_run_33 (v := lN 0) (by decide) ?_
      refine kn_last hB M_run_34 h1 rfl (by omega) (by decide) ?_
      refine kn_iinc hB M_run_35 rfl (by decide) rfl ?_
      refine kw_goto hB M_run_38 ?_
      refine ih (v + 1) (by omega) _ _ (List.getElem?_set_self (List.getElem?_eq_some_iff.mp h1).1) (fun j hj => ?_) (hf.tr (jset_fr _ _ _))
      by_cases zj : j = v
      · subst zj; rw [pk_uLs]
      · rw [pk_uLn zj]; exact h2 j (by omega)
  refine kw_iconst hB M_run_21 (v := nI 0) (by decide) ?_
  refine kw_istore_n hB M_run_22 rfl (by decide) rfl ?_
  obtain ⟨ipf, plf, wdf, vlf, i0, i1, i2, i3, i4, i5⟩ := id hmi0
  exact zero 5 0 (by omega) X vlf i1 (fun j hj => absurd hj (by omega)) (jfr.rf _ _)
end JMRR
