-- long numbers below 2 ^ 63: signed comparison, division, shifts
theorem jL_i {n : Nat} (h : n < 2 ^ 63) : (lN n).toInt = (n : Int) := lg_ofNat_toInt h
theorem jL_le {a b : Nat} (ha : a < 2 ^ 63) (hb : b < 2 ^ 63) : lN a ≤ lN b ↔ a ≤ b := by
  rw [Int64.le_iff_toInt_le, jL_i ha, jL_i hb]; omega
theorem jL_lt {a b : Nat} (ha : a < 2 ^ 63) (hb : b < 2 ^ 63) : lN a < lN b ↔ a < b := by
  rw [Int64.lt_iff_toInt_lt, jL_i ha, jL_i hb]; omega
theorem jL_div {a b : Nat} (ha : a < 2 ^ 63) (h0 : 0 < b) (hb : b < 2 ^ 63) : lN a / lN b = lN (a / b) := by
  apply Int64.toInt_inj.mp
  rw [lg_ldiv_nonneg (by rw [jL_i ha]; omega) (by rw [jL_i hb]; omega), jL_i ha, jL_i hb, jL_i (Nat.lt_of_le_of_lt (Nat.div_le_self _ _) ha)]
  exact (Int.natCast_ediv a b).symm
theorem jL_shr {n k : Nat} (hn : n < 2 ^ 63) (hk : k < 64) : lN n >>> ((nI k).toInt64 &&& 63) = lN (n / 2 ^ k) := by
  rw [wb_c k hk]
  apply wb_inj
  rw [Int64.toBitVec_shiftRight, wb_tb, wb_tb, wb_tb, wb_sm k hk]
  have hm : (BitVec.ofNat 64 n).msb = false := by
    rw [BitVec.msb_eq_decide, BitVec.toNat_ofNat, Nat.mod_eq_of_lt (by omega), decide_eq_false]
    show ¬ 2 ^ (64 - 1) ≤ n
    omega
  apply BitVec.eq_of_toNat_eq
  rw [BitVec.toNat_ofNat, Nat.mod_eq_of_lt (Nat.lt_of_le_of_lt (Nat.div_le_self _ _) (by omega))]
  show ((BitVec.ofNat 64 n).sshiftRight (BitVec.ofNat 64 k).toNat).toNat = _
  rw [BitVec.sshiftRight_eq_of_msb_false hm, BitVec.toNat_ushiftRight, BitVec.toNat_ofNat, BitVec.toNat_ofNat, Nat.mod_eq_of_lt (show n < 2 ^ 64 by omega), Nat.mod_eq_of_lt (show k < 2 ^ 64 by omega), Nat.shiftRight_eq_div_pow]
section JLM
variable {l : Launch} {D : va_G} {g : Nat × Nat} {M : ja_M} {d cm sm : Nat} {K : ja_K} {pc pc' : Nat} {loc st : List Value} {X : ja_H} {nc ns : Nat}
theorem kl_cmp_le (hB : ja_B l D g M d cm sm K) {a b p1 p2 tgt : Nat} {off : Int} (h : ja_at M.2.1 pc p1 .lcmp 1) (h2 : ja_to M.2.1 p1 p2 tgt (.ifCond .le off) off) (ha : a < 2 ^ 63) (hb : b < 2 ^ 63) (kt : a ≤ b → K tgt loc st X nc ns) (kf : b < a → K p2 loc st X nc ns) : K pc loc (.long (lN b) :: .long (lN a) :: st) X nc ns :=
  kw_lcmp hB h (kw_if_le hB h2 (fun q => kt ((jL_le ha hb).mp ((lg_cmp_le _ _).mp q))) (fun q => kf (Nat.lt_of_not_le fun z => q ((lg_cmp_le _ _).mpr ((jL_le ha hb).mpr z)))))
theorem kl_cmp_lt (hB : ja_B l D g M d cm sm K) {a b p1 p2 tgt : Nat} {off : Int} (h : ja_at M.2.1 pc p1 .lcmp 1) (h2 : ja_to M.2.1 p1 p2 tgt (.ifCond .lt off) off) (ha : a < 2 ^ 63) (hb : b < 2 ^ 63) (kt : a < b → K tgt loc st X nc ns) (kf : b ≤ a → K p2 loc st X nc ns) : K pc loc (.long (lN b) :: .long (lN a) :: st) X nc ns :=
  kw_lcmp hB h (kw_if_lt hB h2 (fun q => kt ((jL_lt ha hb).mp ((lg_cmp_lt _ _).mp q))) (fun q => kf (Nat.le_of_not_lt fun z => q ((lg_cmp_lt _ _).mpr ((jL_lt ha hb).mpr z)))))
theorem kl_cmp_gt (hB : ja_B l D g M d cm sm K) {a b p1 p2 tgt : Nat} {off : Int} (h : ja_at M.2.1 pc p1 .lcmp 1) (h2 : ja_to M.2.1 p1 p2 tgt (.ifCond .gt off) off) (ha : a < 2 ^ 63) (hb : b < 2 ^ 63) (kt : b < a → K tgt loc st X nc ns) (kf : a ≤ b → K p2 loc st X nc ns) : K pc loc (.long (lN b) :: .long (lN a) :: st) X nc ns :=
  kw_lcmp hB h (kw_if_gt hB h2 (fun q => kt ((jL_lt hb ha).mp ((lg_cmp_gt _ _).mp q))) (fun q => kf (Nat.le_of_not_lt fun z => q ((lg_cmp_gt _ _).mpr ((jL_lt hb ha).mpr z)))))
theorem kl_cmp_ge (hB : ja_B l D g M d cm sm K) {a b p1 p2 tgt : Nat} {off : Int} (h : ja_at M.2.1 pc p1 .lcmp 1) (h2 : ja_to M.2.1 p1 p2 tgt (.ifCond .ge off) off) (ha : a < 2 ^ 63) (hb : b < 2 ^ 63) (kt : b ≤ a → K tgt loc st X nc ns) (kf : a < b → K p2 loc st X nc ns) : K pc loc (.long (lN b) :: .long (lN a) :: st) X nc ns :=
  kw_lcmp hB h (kw_if_ge hB h2 (fun q => kt ((jL_le hb ha).mp ((lg_cmp_ge _ _).mp q))) (fun q => kf (Nat.lt_of_not_le fun z => q ((lg_cmp_ge _ _).mpr ((jL_le hb ha).mpr z)))))
theorem jL_ne0 {b : Nat} (h0 : 0 < b) (hb : b < 2 ^ 63) : ¬ lN b = 0 := fun z => by
  have := congrArg Int64.toInt z
  rw [jL_i hb] at this
  have h2 : (0 : Int64).toInt = 0 := by decide
  omega
theorem kl_ldiv (hB : ja_B l D g M d cm sm K) {a b : Nat} (h : ja_at M.2.1 pc pc' .ldiv 1) (ha : a < 2 ^ 63) (h0 : 0 < b) (hb : b < 2 ^ 63) (k : K pc' loc (.long (lN (a / b)) :: st) X nc ns) : K pc loc (.long (lN b) :: .long (lN a) :: st) X nc ns := kw_ldiv hB h (jL_ne0 h0 hb) (by rw [jL_div ha h0 hb]; exact k)
theorem kl_lrem (hB : ja_B l D g M d cm sm K) {a b : Nat} (h : ja_at M.2.1 pc pc' .lrem 1) (ha : a < 2 ^ 63) (h0 : 0 < b) (hb : b < 2 ^ 63) (k : K pc' loc (.long (lN (a % b)) :: st) X nc ns) : K pc loc (.long (lN b) :: .long (lN a) :: st) X nc ns := kw_lrem hB h (jL_ne0 h0 hb) (by
  rw [jL_div ha h0 hb, lN_mul, lN_sub (Nat.div_mul_le_self a b), show a - a / b * b = a % b by rw [Nat.mul_comm]; have := Nat.div_add_mod a b; omega]; exact k)
theorem kl_lshr (hB : ja_B l D g M d cm sm K) {w b : Nat} (h : ja_at M.2.1 pc pc' .lshr 1) (hw : w < 2 ^ 63) (hb : b < 64) (k : K pc' loc (.long (lN (w / 2 ^ b)) :: st) X nc ns) : K pc loc (.int (nI b) :: .long (lN w) :: st) X nc ns := kw_lshr hB h (jL_shr hw hb) k
theorem kl_lmul (hB : ja_B l D g M d cm sm K) {a b : Nat} (h : ja_at M.2.1 pc pc' .lmul 1) (k : K pc' loc (.long (lN (a * b)) :: st) X nc ns) : K pc loc (.long (lN b) :: .long (lN a) :: st) X nc ns := kw_lmul hB h (by rw [lN_mul]; exact k)
theorem kl_ladd (hB : ja_B l D g M d cm sm K) {a b : Nat} (h : ja_at M.2.1 pc pc' .ladd 1) (k : K pc' loc (.long (lN (a + b)) :: st) X nc ns) : K pc loc (.long (lN b) :: .long (lN a) :: st) X nc ns := kw_ladd hB h (by rw [lN_add]; exact k)
theorem kl_lsub (hB : ja_B l D g M d cm sm K) {a b : Nat} (h : ja_at M.2.1 pc pc' .lsub 1) (hab : b ≤ a) (k : K pc' loc (.long (lN (a - b)) :: st) X nc ns) : K pc loc (.long (lN b) :: .long (lN a) :: st) X nc ns := kw_lsub hB h (by rw [lN_sub hab]; exact k)
end JLM
section JMW5
variable (l : Launch) (D : va_G) (g : Nat × Nat) {X : ja_H}
set_option maxHeartbeats 4000000 in
set_option maxRecDepth 100000 in
theorem c_M_lengthOf {w : Nat} (hw : w < 2 ^ 63) : AMet l D g 0 0 0 m_M_lengthOf [.long (lN w)] X (fun r X' => r = some (.int (nI (jlen w))) ∧ X' = X) := by
  refine ja_metK (by decide) rfl (Nat.le_of_ble_eq_true rfl) fun K hB hF => ?_
  have loop : ∀ p v i, jlen v = p → v < 2 ^ 63 → i + p = jlen w → K 4 [.long (lN w), .retAddr 0, .int (nI i), .long (lN v), .retAddr 0] [] X 0 0 := by
    intro p
    induction p with
    | zero =>
      intro v i hp hv hi
      have h0 : v = 0 := by
        refine Classical.byContradiction fun z => ?_
        rw [jlen_s z] at hp
        cases hp
      subst h0
      refine kw_lload_n hB M_lengthOf_4 rfl ?_
      refine kw_lconst hB M_lengthOf_5 (v := lN 0) (by decide) ?_
      refine kl_cmp_le hB M_lengthOf_6 M_lengthOf_7 (by decide) (by decide) (fun _ => ?_) (fun z => absurd z (by decide))
      refine kw_iload_n hB M_lengthOf_20 rfl ?_
      refine kw_iret hF rfl M_lengthOf_21 ⟨by rw [show i = jlen w by omega], rfl⟩ (by simp)
    | succ p ih =>
      intro v i hp hv hi
      have h0 : v ≠ 0 := fun z => by subst z; rw [jlen_0] at hp; cases hp
      rw [jlen_s h0] at hp
      refine kw_lload_n hB M_lengthOf_4 rfl ?_
      refine kw_lconst hB M_lengthOf_5 (v := lN 0) (by decide) ?_
      refine kl_cmp_le hB M_lengthOf_6 M_lengthOf_7 hv (by decide) (fun z => absurd z (by omega)) (fun _ => ?_)
      refine kn_iinc hB M_lengthOf_10 rfl (by decide) rfl ?_
      refine kw_lload_n hB M_lengthOf_13 rfl ?_
      refine kw_iconst hB M_lengthOf_14 (v := nI 4) (by decide) ?_
      refine kl_lshr hB M_lengthOf_15 hv (by decide) ?_
      refine kw_lstore_n hB M_lengthOf_16 rfl (by decide) rfl ?_
      refine kw_goto hB M_lengthOf_17 ?_
      exact ih (v / 2 ^ 4) (i + 1) (by rw [show 2 ^ 4 = 16 from rfl]; omega) (Nat.lt_of_le_of_lt (Nat.div_le_self _ _) hv) (by omega)
  refine kw_iconst hB M_lengthOf_0 (v := nI 0) (by decide) ?_
  refine kw_istore_n hB M_lengthOf_1 rfl (by decide) rfl ?_
  refine kw_lload_n hB M_lengthOf_2 rfl ?_
  refine kw_lstore_n hB M_lengthOf_3 rfl (by decide) rfl ?_
  exact loop (jlen w) w 0 rfl hw (by omega)
set_option maxHeartbeats 4000000 in
set_option maxRecDepth 100000 in
theorem c_M_letter {w k : Nat} (hw : w < 2 ^ 60) (hk : k < jlen w) : AMet l D g 1 0 0 m_M_letter [.long (lN w), .int (nI k)] X (fun r X' => r = some (.int (nI (jdig w (jlen w) k))) ∧ X' = X) := by
  have h15 : jlen w ≤ 15 := jlen_le (show w < 16 ^ 15 from hw)
  refine ja_metK (by decide) rfl (Nat.le_of_ble_eq_true rfl) fun K hB hF => ?_
  refine kw_lload_n hB M_letter_0 rfl ?_
  refine kw_iconst hB M_letter_1 (v := nI 4) (by decide) ?_
  refine kw_lload_n hB M_letter_2 rfl ?_
  refine kw_callS hB M_letter_3 s_M_267 st_M_lengthOf (As := [.long (lN w)]) (c_M_lengthOf l D g (by omega)) rfl (by decide) (Nat.le_of_ble_eq_true rfl) (by omega) (by omega) (fun r X1 hq hl => ?_)
  obtain ⟨rfl, hxeq⟩ := hq
  obtain rfl := hxeq.symm
  refine kw_iconst hB M_letter_6 (v := nI 1) (by decide) ?_
  refine kn_isub hB M_letter_7 (by omega) ?_
  refine kw_iload_n hB M_letter_8 rfl ?_
  refine kn_isub hB M_letter_9 (by omega) ?_
  refine kn_imul hB M_letter_10 ?_
  refine kl_lshr hB M_letter_11 (by omega) (by omega) ?_
  rw [jp16]
  refine kw_ldc2 hB M_letter_12 (v := 15) (jm 1200 (by decide +kernel) rfl) ?_
  refine kl_land hB M_letter_15 (b := 15) (Nat.lt_of_le_of_lt (Nat.div_le_self _ _) (by omega)) (by decide) ?_
  rw [show w / 16 ^ (jlen w - 1 - k) &&& 15 = w / 16 ^ (jlen w - 1 - k) % 16 from Nat.and_two_pow_sub_one_eq_mod _ 4]
  refine kl_l2i hB M_letter_16 ?_
  refine kw_iret hF rfl M_letter_17 ⟨rfl, rfl⟩ (by simp)
end JMW5
