-- the model: witness
theorem jGw_far {nx : Nat → Nat → Nat} {ac : Nat → Bool} : ∀ {k : Nat} {w : List Nat}, jGw nx ac k w → jFar nx ac 95 k = some w.length
  | _, [], h => h
  | _, _ :: _, h => h.1
section JMWT
variable (l : Launch) (D : va_G) (g : Nat × Nat) {X Y : ja_H} {n s : Nat} {K V A B M L : Nat → Nat} {σ : Nat → List (Nat × Nat)} {md : Bool} {ip wd pl : Nat → Nat} {hn : Nat} {ed : Int32}
set_option maxHeartbeats 8000000 in
set_option maxRecDepth 100000 in
theorem c_M_witness {x y : Int32} (h : jMdl X n s K V A B M L σ md ip wd pl hn ed) (hP : jPP n s K V A B M L σ) : AMet l D g 2 0 0 m_M_witness [.ref 145, .int x, .int y] X (fun r X' => r = some (.int (if md && jin s x then jWit (jSn (jFin n K V A B M L) (jv x)) y else -1)) ∧ jMdl X' n s K V A B M L σ md ip wd pl hn ed ∧ jfr jMS X X') := by
  have hs6 := hP.2.1
  have h0 := h
  obtain ⟨sc, f, mf, rn, fa, he, hsc, hmp, h158, h159, h166, hi, hmd⟩ := h
  refine ja_metK (by decide) rfl (Nat.le_of_ble_eq_true rfl) fun K9 hB hF => ?_
  have mdl : ∀ (Z : ja_H) (fa2 : Nat → Int32), Z[166]? = some (.inl (0, 96, .inl fa2)) → jfr [166] X Z → jMdl Z n s K V A B M L σ md ip wd pl hn ed ∧ jfr jMS X Z := fun Z fa2 z1 z2 => by
    have n6 : ∀ k, k ≠ 166 → k ∉ [166] := fun k hk z => hk (List.mem_singleton.mp z)
    exact ⟨⟨sc, f, mf, rn, fa2, he.fr z2 (fun k hk => by rw [List.mem_singleton.mp hk]; decide), hsc, hmp.fr z2 (fun k hk => by have := List.mem_singleton.mp hk; omega), z2.at (n6 _ (by decide)) h158, z2.at (n6 _ (by decide)) h159, z1, hi.fr z2 (fun k hk => by have := List.mem_singleton.mp hk; omega), hmd⟩, z2.mono (fun k hk => jMS_mem.mpr (by have := List.mem_singleton.mp hk; omega))⟩
  have no : ∀ (Z : ja_H) (fa2 : Nat → Int32), Z[166]? = some (.inl (0, 96, .inl fa2)) → jfr [166] X Z → (if md && jin s x then jWit (jSn (jFin n K V A B M L) (jv x)) y else -1) = -1 → K9 23 [.ref 145, .int x, .int y, .retAddr 0, .retAddr 0, .retAddr 0] [] Z 0 0 := by
    intro Z fa2 z1 z2 hno
    refine kw_iconst hB M_witness_23 (v := -1) (by decide) ?_
    refine kw_iret hF rfl M_witness_24 ⟨by rw [hno], mdl Z fa2 z1 z2⟩ z2.1
  refine kw_aload_n hB M_witness_0 rfl ?_
  refine kw_iload_n hB M_witness_1 rfl ?_
  refine kw_callV hB M_witness_2 s_M_260 im_M_noSink se_M_noSink he.c rfl rfl (As := [.int x]) (c_M_noSink l D g h0 hP) rfl (by decide) (Nat.le_of_ble_eq_true rfl) (by omega) (by omega) (fun r X1 hq hl => ?_)
  obtain ⟨rfl, hxeq⟩ := hq
  obtain rfl := hxeq.symm
  refine kn_if_ne hB M_witness_5 (by cases (md && jin s x) <;> decide) (fun hz => no X fa h166 (jfr.rf _ _) (by rw [jb_p hz]; rfl)) (fun hz => ?_)
  have hz := jb_n hz
  obtain ⟨hm, hx⟩ := Bool.and_eq_true_iff.mp hz
  obtain ⟨e1, e2⟩ := jin_v hx (by omega)
  have hL := (hmd hm).1 (jv x) e2
  rw [hz] at hF no
  generalize jSn (jFin n K V A B M L) (jv x) = J at hL hF no
  obtain ⟨st, gd, tb, ht, hte⟩ := he.tr
  have hat : jAt st gd tb (35 + jv x) J := hte _ _ (by omega) hL
  have ok := hat.1
  have J1 := ok.2.1
  have J24 := ok.2.2.1
  have hw := jWt_far ok
  refine kw_iload_n hB M_witness_8 rfl ?_
  refine kw_if_lt hB M_witness_9 (fun hc => no X fa h166 (jfr.rf _ _) ?_) (fun hc => ?_)
  · show jWit J y = -1
    unfold jWit
    split
    · rfl
    · rw [if_pos hc]
  obtain ⟨i, hi31, rfl⟩ := nI_of hc
  refine kw_aload_n hB M_witness_12 rfl ?_
  refine kw_bipush hB M_witness_13 (v := nI 35) (by decide) ?_
  refine kw_iload_n hB M_witness_15 (v := nI (jv x)) (by rw [← e1]; rfl) ?_
  refine kn_iadd hB M_witness_16 ?_
  refine kw_callV hB M_witness_17 s_M_254 im_M_distances se_M_distances he.c rfl rfl (As := [.int (nI (35 + jv x))]) (c_M_distances l D g he (by omega) hL h166) rfl (by decide) (Nat.le_of_ble_eq_true rfl) (by omega) (by omega) (fun r X1 hq hl => ?_)
  obtain ⟨rfl, fa2, g1, gv, g2⟩ := hq
  have tY := ht.fr g2 (by decide)
  have hbd : ∀ k m, jFz J k = some m → m ≤ 96 := fun k m hm => Nat.le_succ_of_le (jFar_le hm)
  refine kw_if_ge hB M_witness_20 (fun hc2 => ?_) (fun hc2 => ?_)
  rotate_left
  · have hnone := (jen_neg (hbd 0)).mp (Int32.not_le.mp hc2)
    refine no X1 fa2 g1 g2 ?_
    show jWit J (nI i) = -1
    rw [hnone] at hw
    unfold jWit
    cases e : jWt J with
    | none => rfl
    | some w => rw [e] at hw; cases hw
  have hsome := mt (jen_neg (hbd 0)).mpr (Int32.not_lt.mpr hc2)
  obtain ⟨m, hm0⟩ : ∃ m, jFz J 0 = some m := by
    cases e : jFz J 0 with
    | none => exact absurd e hsome
    | some m => exact ⟨m, rfl⟩
  have hnx : ∀ k c, k < 4 * J.1 → c < 8 → jdx J k (c + 1) < 4 * J.1 := fun k c => jdx_lt ok
  obtain ⟨w, w1, w2⟩ := jGw_ex hnx (by omega) (show 0 < 4 * J.1 by omega) hm0
  have hwt := jWt_gw ok w1
  have hm96 := hbd 0 m hm0
  have far0 := gv 0 (by omega)
  rw [hm0] at far0
  have far0 : fa2 0 = nI w.length := by rw [far0, ← w2]; rfl
  -- the end
  have out : ∀ (a xx j : Nat), (i < w.length → xx = (match w[i]? with | some c => c + 1 | none => 0)) → K9 128 [.ref 145, .int x, .int (nI i), .int (nI a), .int (nI xx), .int (nI j)] [] X1 0 0 := by
    intro a xx j hxx
    have hres : jWit J (nI i) = nI (match w[i]? with | some c => c + 1 | none => 0) := by
      unfold jWit
      rw [hwt]
      show (if nI i < 0 then -1 else nI (match w[jv (nI i)]? with | some c => c + 1 | none => 0)) = _
      rw [if_neg hc, jv_nI hi31]
    refine kw_iload_n hB M_witness_128 rfl ?_
    refine kw_aload_n hB M_witness_129 rfl ?_
    refine kw_getf hB M_witness_130 f_M_71 tY.1 rfl ?_
    refine kw_iconst hB M_witness_133 (v := nI 0) (by decide) ?_
    refine kn_iald hB M_witness_134 g1 rfl (by decide) (by decide) ?_
    rw [far0]
    refine kn_icmp_ge hB M_witness_135 (by omega) (by omega) (fun z => ?_) (fun z => ?_)
    · refine kw_iconst hB M_witness_143 (v := nI 0) (by decide) ?_
      refine kw_iret hF rfl M_witness_144 ⟨?_, mdl X1 fa2 g1 g2⟩ g2.1
      show some (Value.int (nI 0)) = some (.int (jWit J (nI i)))
      rw [hres, List.getElem?_eq_none z]
    · refine kw_iload hB M_witness_138 rfl ?_
      refine kw_goto hB M_witness_140 ?_
      refine kw_iret hF rfl M_witness_144 ⟨?_, mdl X1 fa2 g1 g2⟩ g2.1
      show some (Value.int (nI xx)) = some (.int (jWit J (nI i)))
      rw [hres, hxx z]
  have loop : ∀ (v u : List Nat) (a xx : Nat), jGw (jdx J) (jda J) a v → a < 4 * J.1 → w = u ++ v → u.length ≤ i + 1 → xx = (match u.getLast? with | some c => c + 1 | none => 0) → K9 33 [.ref 145, .int x, .int (nI i), .int (nI a), .int (nI xx), .int (nI u.length)] [] X1 0 0 := by
    intro v
    induction v with
    | nil =>
      intro u a xx hg ha hw hu hxx
      have hwl : w.length = u.length := by rw [hw, List.append_nil]
      refine kw_iload hB M_witness_33 rfl ?_
      refine kw_iload_n hB M_witness_35 rfl ?_
      have ex : K9 128 [.ref 145, .int x, .int (nI i), .int (nI a), .int (nI xx), .int (nI u.length)] [] X1 0 0 := by
        refine out a xx _ (fun hlt => ?_)
        rw [hxx, hw, List.append_nil, List.getLast?_eq_getElem?, show u.length - 1 = i by omega]
      refine kn_icmp_gt hB M_witness_36 (by omega) (by omega) (fun _ => ex) (fun z => ?_)
      refine kw_aload_n hB M_witness_39 rfl ?_
      refine kw_getf hB M_witness_40 f_M_71 tY.1 rfl ?_
      refine kw_iload_n hB M_witness_43 rfl ?_
      refine kn_iald hB M_witness_44 g1 rfl (by omega) (by decide) ?_
      rw [gv a ha, show jFz J a = some 0 from hg]
      refine kw_if_le hB M_witness_45 (fun _ => ex) (fun z => absurd (show nI 0 ≤ 0 by decide) z)
    | cons c v ih =>
      intro u a xx hg ha hw hu hxx
      have hwl : w.length = u.length + (v.length + 1) := by rw [hw, List.length_append]; rfl
      obtain ⟨d1, d2, d3, d4⟩ := hg
      have d5 := jGw_far d4
      refine kw_iload hB M_witness_33 rfl ?_
      refine kw_iload_n hB M_witness_35 rfl ?_
      refine kn_icmp_gt hB M_witness_36 (by omega) (by omega) (fun z => out a xx _ (fun hlt => ?_)) (fun z => ?_)
      · rw [hxx, hw, List.getElem?_append_left (by omega), List.getLast?_eq_getElem?, show u.length - 1 = i by omega]
      refine kw_aload_n hB M_witness_39 rfl ?_
      refine kw_getf hB M_witness_40 f_M_71 tY.1 rfl ?_
      refine kw_iload_n hB M_witness_43 rfl ?_
      refine kn_iald hB M_witness_44 g1 rfl (by omega) (by decide) ?_
      have fara : fa2 a = nI (v.length + 1) := by rw [gv a ha, show jFz J a = some (v.length + 1) from d1]; rfl
      rw [fara]
      refine kw_if_le hB M_witness_45 (fun z2 => absurd ((nI_leI (b := 0) (by omega) (by decide)).mp z2) (by omega)) (fun _ => ?_)
      have inner : ∀ p c', c' + p = c → K9 51 [.ref 145, .int x, .int (nI i), .int (nI a), .int (nI (c' + 1)), .int (nI u.length)] [] X1 0 0 := by
        intro p
        induction p with
        | zero =>
          intro c' hc'
          have hcc : c' = c := by omega
          subst hcc
          have tl := hnx a c' ha d2
          refine kw_aload_n hB M_witness_51 rfl ?_
          refine kw_getf hB M_witness_52 f_M_71 tY.1 rfl ?_
          refine kw_iconst hB M_witness_55 (v := nI 4) (by decide) ?_
          refine kw_aload_n hB M_witness_56 rfl ?_
          refine kw_bipush hB M_witness_57 (v := nI 35) (by decide) ?_
          refine kw_iload_n hB M_witness_59 (v := nI (jv x)) (by rw [← e1]; rfl) ?_
          refine kn_iadd hB M_witness_60 ?_
          refine kw_iload_n hB M_witness_61 rfl ?_
          refine kw_iconst hB M_witness_62 (v := nI 4) (by decide) ?_
          refine kn_idiv hB M_witness_63 (by omega) (by decide) (by decide) ?_
          refine kw_iload hB M_witness_64 rfl ?_
          refine kw_callV hB M_witness_66 s_M_119 im_M_step se_M_step tY.1 rfl rfl (As := [.int (nI (35 + jv x)), .int (nI (a / 4)), .int (nI (c' + 1))]) (c_M_step l D g tY hat (by omega) (by omega) (by omega) (by omega)) rfl (by decide) (Nat.le_of_ble_eq_true rfl) (by omega) (by omega) (fun r X1 hq hl => ?_)
          obtain ⟨rfl, hxeq⟩ := hq
          obtain rfl := hxeq.symm
          refine kn_imul hB M_witness_69 ?_
          refine kw_iload_n hB M_witness_70 rfl ?_
          refine kw_iconst hB M_witness_71 (v := nI 4) (by decide) ?_
          refine kn_irem hB M_witness_72 (by omega) (by decide) (by decide) ?_
          refine kw_iload hB M_witness_73 rfl ?_
          refine kw_callS hB M_witness_75 s_M_257 st_M_reads (As := [.int (nI (a % 4)), .int (nI (c' + 1))]) (c_M_reads l D g (by omega) (by omega) (by omega)) rfl (by decide) (Nat.le_of_ble_eq_true rfl) (by omega) (by omega) (fun r X1 hq hl => ?_)
          obtain ⟨rfl, hxeq⟩ := hq
          obtain rfl := hxeq.symm
          refine kn_iadd hB M_witness_78 ?_
          rw [show 4 * jXf J (a / 4 * 8 + (c' + 1) - 1) + jread (a % 4) (c' + 1) = jdx J a (c' + 1) from rfl]
          refine kn_iald hB M_witness_79 g1 rfl (by omega) (by decide) ?_
          rw [gv _ tl, show jFz J (jdx J a (c' + 1)) = some v.length from d5]
          refine kw_aload_n hB M_witness_80 rfl ?_
          refine kw_getf hB M_witness_81 f_M_71 tY.1 rfl ?_
          refine kw_iload_n hB M_witness_84 rfl ?_
          refine kn_iald hB M_witness_85 g1 rfl (by omega) (by decide) ?_
          rw [fara]
          refine kw_iconst hB M_witness_86 (v := nI 1) (by decide) ?_
          refine kn_isub hB M_witness_87 (by omega) ?_
          refine kw_icmp_eq hB M_witness_88 (fun _ => ?_) (fun z => absurd rfl z)
          refine kw_iconst hB M_witness_97 (v := nI 4) (by decide) ?_
          refine kw_aload_n hB M_witness_98 rfl ?_
          refine kw_bipush hB M_witness_99 (v := nI 35) (by decide) ?_
          refine kw_iload_n hB M_witness_101 (v := nI (jv x)) (by rw [← e1]; rfl) ?_
          refine kn_iadd hB M_witness_102 ?_
          refine kw_iload_n hB M_witness_103 rfl ?_
          refine kw_iconst hB M_witness_104 (v := nI 4) (by decide) ?_
          refine kn_idiv hB M_witness_105 (by omega) (by decide) (by decide) ?_
          refine kw_iload hB M_witness_106 rfl ?_
          refine kw_callV hB M_witness_108 s_M_119 im_M_step se_M_step tY.1 rfl rfl (As := [.int (nI (35 + jv x)), .int (nI (a / 4)), .int (nI (c' + 1))]) (c_M_step l D g tY hat (by omega) (by omega) (by omega) (by omega)) rfl (by decide) (Nat.le_of_ble_eq_true rfl) (by omega) (by omega) (fun r X1 hq hl => ?_)
          obtain ⟨rfl, hxeq⟩ := hq
          obtain rfl := hxeq.symm
          refine kn_imul hB M_witness_111 ?_
          refine kw_iload_n hB M_witness_112 rfl ?_
          refine kw_iconst hB M_witness_113 (v := nI 4) (by decide) ?_
          refine kn_irem hB M_witness_114 (by omega) (by decide) (by decide) ?_
          refine kw_iload hB M_witness_115 rfl ?_
          refine kw_callS hB M_witness_117 s_M_257 st_M_reads (As := [.int (nI (a % 4)), .int (nI (c' + 1))]) (c_M_reads l D g (by omega) (by omega) (by omega)) rfl (by decide) (Nat.le_of_ble_eq_true rfl) (by omega) (by omega) (fun r X1 hq hl => ?_)
          obtain ⟨rfl, hxeq⟩ := hq
          obtain rfl := hxeq.symm
          refine kn_iadd hB M_witness_120 ?_
          rw [show 4 * jXf J (a / 4 * 8 + (c' + 1) - 1) + jread (a % 4) (c' + 1) = jdx J a (c' + 1) from rfl]
          refine kw_istore_n hB M_witness_121 rfl (by decide) rfl ?_
          refine kn_iinc hB M_witness_122 rfl (by decide) rfl ?_
          refine kw_goto hB M_witness_125 ?_
          have := ih (u ++ [c']) (jdx J a (c' + 1)) (c' + 1) d4 tl (by rw [hw, List.append_assoc]; rfl) (by rw [List.length_append]; show u.length + 1 ≤ i + 1; omega) (by rw [List.getLast?_append]; rfl)
          rw [List.length_append] at this
          exact this
        | succ p ihp =>
          intro c' hc'
          have tl := hnx a c' ha (by omega)
          refine kw_aload_n hB M_witness_51 rfl ?_
          refine kw_getf hB M_witness_52 f_M_71 tY.1 rfl ?_
          refine kw_iconst hB M_witness_55 (v := nI 4) (by decide) ?_
          refine kw_aload_n hB M_witness_56 rfl ?_
          refine kw_bipush hB M_witness_57 (v := nI 35) (by decide) ?_
          refine kw_iload_n hB M_witness_59 (v := nI (jv x)) (by rw [← e1]; rfl) ?_
          refine kn_iadd hB M_witness_60 ?_
          refine kw_iload_n hB M_witness_61 rfl ?_
          refine kw_iconst hB M_witness_62 (v := nI 4) (by decide) ?_
          refine kn_idiv hB M_witness_63 (by omega) (by decide) (by decide) ?_
          refine kw_iload hB M_witness_64 rfl ?_
          refine kw_callV hB M_witness_66 s_M_119 im_M_step se_M_step tY.1 rfl rfl (As := [.int (nI (35 + jv x)), .int (nI (a / 4)), .int (nI (c' + 1))]) (c_M_step l D g tY hat (by omega) (by omega) (by omega) (by omega)) rfl (by decide) (Nat.le_of_ble_eq_true rfl) (by omega) (by omega) (fun r X1 hq hl => ?_)
          obtain ⟨rfl, hxeq⟩ := hq
          obtain rfl := hxeq.symm
          refine kn_imul hB M_witness_69 ?_
          refine kw_iload_n hB M_witness_70 rfl ?_
          refine kw_iconst hB M_witness_71 (v := nI 4) (by decide) ?_
          refine kn_irem hB M_witness_72 (by omega) (by decide) (by decide) ?_
          refine kw_iload hB M_witness_73 rfl ?_
          refine kw_callS hB M_witness_75 s_M_257 st_M_reads (As := [.int (nI (a % 4)), .int (nI (c' + 1))]) (c_M_reads l D g (by omega) (by omega) (by omega)) rfl (by decide) (Nat.le_of_ble_eq_true rfl) (by omega) (by omega) (fun r X1 hq hl => ?_)
          obtain ⟨rfl, hxeq⟩ := hq
          obtain rfl := hxeq.symm
          refine kn_iadd hB M_witness_78 ?_
          rw [show 4 * jXf J (a / 4 * 8 + (c' + 1) - 1) + jread (a % 4) (c' + 1) = jdx J a (c' + 1) from rfl]
          refine kn_iald hB M_witness_79 g1 rfl (by omega) (by decide) ?_
          rw [gv _ tl]
          refine kw_aload_n hB M_witness_80 rfl ?_
          refine kw_getf hB M_witness_81 f_M_71 tY.1 rfl ?_
          refine kw_iload_n hB M_witness_84 rfl ?_
          refine kn_iald hB M_witness_85 g1 rfl (by omega) (by decide) ?_
          rw [fara]
          refine kw_iconst hB M_witness_86 (v := nI 1) (by decide) ?_
          refine kn_isub hB M_witness_87 (by omega) ?_
          rw [show v.length + 1 - 1 = v.length from rfl]
          refine kw_icmp_eq hB M_witness_88 (fun z => absurd ((jen_eq (hbd _) (by omega)).mp z) (d3 c' (by omega))) (fun _ => ?_)
          refine kn_iinc hB M_witness_91 rfl (by decide) rfl ?_
          refine kw_goto hB M_witness_94 ?_
          exact ihp (c' + 1) (by omega)
      refine kw_iconst hB M_witness_48 (v := nI 1) (by decide) ?_
      refine kw_istore hB M_witness_49 (by decide) rfl ?_
      exact inner c 0 (by omega)
  refine kw_iconst hB M_witness_25 (v := nI 0) (by decide) ?_
  refine kw_istore_n hB M_witness_26 rfl (by decide) rfl ?_
  refine kw_iconst hB M_witness_27 (v := nI 0) (by decide) ?_
  refine kw_istore hB M_witness_28 (by decide) rfl ?_
  refine kw_iconst hB M_witness_30 (v := nI 0) (by decide) ?_
  refine kw_istore hB M_witness_31 (by decide) rfl ?_
  exact loop w [] 0 0 w1 (by omega) rfl (by simp) rfl
end JMWT
