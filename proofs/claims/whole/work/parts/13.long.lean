-- longs by lN (the rows wb_ stand in kit/laws/BITS.to-paste)
theorem wb_tb (n : Nat) : (lN n).toBitVec = BitVec.ofNat 64 n := rfl
theorem wb_inj {a b : Int64} (h : a.toBitVec = b.toBitVec) : a = b := Int64.toBitVec_inj.mp h
theorem wb_tn {n : Nat} (h : n < 2 ^ 64) : (lN n).toBitVec.toNat = n := by rw [wb_tb, BitVec.toNat_ofNat, Nat.mod_eq_of_lt h]
theorem wb_of (x : Int64) : ∃ n, n < 2 ^ 64 ∧ x = lN n := ⟨x.toBitVec.toNat, x.toBitVec.isLt, wb_inj (by rw [wb_tb]; simp)⟩
theorem wb_of32 (x : Int32) : ∃ n, n < 2 ^ 32 ∧ x = nI n := ⟨x.toBitVec.toNat, x.toBitVec.isLt, Int32.toBitVec_inj.mp (by show _ = BitVec.ofNat 32 _; simp)⟩
theorem wb_c : ∀ k, k < 64 → ((nI k).toInt64 &&& 63) = lN k := by decide +kernel
theorem wb_cu : ∀ k, k < 64 → ((nI k).toInt64.toUInt64 &&& Int64.toUInt64 63) = UInt64.ofNat k := by decide +kernel
theorem wb_sm : ∀ k, k < 64 → (BitVec.ofNat 64 k).smod 64 = BitVec.ofNat 64 k := by decide +kernel
theorem wb_pw {a b : Nat} (h : a ≤ b) : 2 ^ b = 2 ^ a * 2 ^ (b - a) := by rw [← Nat.pow_add]; congr 1; omega
theorem wb_lt2 {a b : Nat} (h : a < b) : 2 ^ a < 2 ^ b := Nat.pow_lt_pow_right (by decide) h
theorem wb_mod (n : Nat) : lN n = lN (n % 2 ^ 64) := wb_inj (by rw [wb_tb, wb_tb]; apply BitVec.eq_of_toNat_eq; rw [BitVec.toNat_ofNat, BitVec.toNat_ofNat, Nat.mod_mod])
theorem wb_shr {n k : Nat} (hn : n < 2 ^ 64) (hk : k < 64) : ((lN n).toUInt64 >>> ((nI k).toInt64.toUInt64 &&& Int64.toUInt64 63)).toInt64 = lN (n / 2 ^ k) := by
  rw [wb_cu k hk]
  apply wb_inj
  apply BitVec.eq_of_toNat_eq
  show ((lN n).toUInt64 >>> UInt64.ofNat k).toNat = (BitVec.ofNat 64 _).toNat
  have h1 : (UInt64.ofNat k).toNat = k := by
    show (BitVec.ofNat 64 k).toNat = k
    rw [BitVec.toNat_ofNat, Nat.mod_eq_of_lt (by omega)]
  have h2 : (lN n).toUInt64.toNat = n := wb_tn hn
  rw [UInt64.toNat_shiftRight, h1, h2, Nat.mod_eq_of_lt hk, Nat.shiftRight_eq_div_pow, BitVec.toNat_ofNat, Nat.mod_eq_of_lt (Nat.lt_of_le_of_lt (Nat.div_le_self _ _) hn)]
theorem wb_shl (n : Nat) {k : Nat} (hk : k < 64) : lN n <<< ((nI k).toInt64 &&& 63) = lN (n * 2 ^ k) := by
  rw [wb_c k hk]
  apply wb_inj
  rw [Int64.toBitVec_shiftLeft, wb_tb, wb_tb, wb_tb, wb_sm k hk]
  apply BitVec.eq_of_toNat_eq
  rw [BitVec.shiftLeft_eq', BitVec.toNat_shiftLeft, BitVec.toNat_ofNat, BitVec.toNat_ofNat, BitVec.toNat_ofNat, Nat.mod_eq_of_lt (show k < 2 ^ 64 by omega), Nat.shiftLeft_eq, Nat.mul_mod, Nat.mod_mod, ← Nat.mul_mod]
theorem wb_and {a b : Nat} (ha : a < 2 ^ 64) (hb : b < 2 ^ 64) : lN a &&& lN b = lN (a &&& b) := by
  apply wb_inj
  rw [Int64.toBitVec_and, wb_tb, wb_tb, wb_tb]
  apply BitVec.eq_of_toNat_eq
  rw [BitVec.toNat_and, BitVec.toNat_ofNat, BitVec.toNat_ofNat, BitVec.toNat_ofNat, Nat.mod_eq_of_lt ha, Nat.mod_eq_of_lt hb, Nat.mod_eq_of_lt (Nat.and_lt_two_pow _ hb)]
theorem wb_or {a b : Nat} (ha : a < 2 ^ 64) (hb : b < 2 ^ 64) : lN a ||| lN b = lN (a ||| b) := by
  apply wb_inj
  rw [Int64.toBitVec_or, wb_tb, wb_tb, wb_tb]
  apply BitVec.eq_of_toNat_eq
  rw [BitVec.toNat_or, BitVec.toNat_ofNat, BitVec.toNat_ofNat, BitVec.toNat_ofNat, Nat.mod_eq_of_lt ha, Nat.mod_eq_of_lt hb, Nat.mod_eq_of_lt (Nat.or_lt_two_pow ha hb)]
theorem wb_mask {n k : Nat} (hn : n < 2 ^ 64) (hk : k < 64) : lN n &&& lN (2 ^ k - 1) = lN (n % 2 ^ k) := by
  rw [wb_and hn (by have := wb_lt2 hk; omega), Nat.and_two_pow_sub_one_eq_mod]
theorem jl_eq {a b : Nat} (ha : a < 2 ^ 64) (hb : b < 2 ^ 64) : lN a = lN b ↔ a = b := by
  constructor
  · intro h
    have := congrArg (fun x : Int64 => x.toBitVec.toNat) h
    simp only [wb_tn ha, wb_tn hb] at this
    exact this
  · intro h; rw [h]
theorem jl_0 : (0 : Int64) = lN 0 := rfl
section JLN
variable {l : Launch} {D : va_G} {g : Nat × Nat} {M : ja_M} {d cm sm : Nat} {K : ja_K} {pc pc' : Nat} {loc st : List Value} {X : ja_H} {nc ns : Nat}
theorem kl_lushr (hB : ja_B l D g M d cm sm K) {w b : Nat} (h : ja_at M.2.1 pc pc' .lushr 1) (hw : w < 2 ^ 64) (hb : b < 64) (k : K pc' loc (.long (lN (w / 2 ^ b)) :: st) X nc ns) : K pc loc (.int (nI b) :: .long (lN w) :: st) X nc ns := kw_lushr hB h (wb_shr hw hb) k
theorem kl_lshl (hB : ja_B l D g M d cm sm K) {w b : Nat} (h : ja_at M.2.1 pc pc' .lshl 1) (hb : b < 64) (k : K pc' loc (.long (lN (w * 2 ^ b)) :: st) X nc ns) : K pc loc (.int (nI b) :: .long (lN w) :: st) X nc ns := kw_lshl hB h (wb_shl w hb) k
theorem kl_land (hB : ja_B l D g M d cm sm K) {a b : Nat} (h : ja_at M.2.1 pc pc' .land 1) (ha : a < 2 ^ 64) (hb : b < 2 ^ 64) (k : K pc' loc (.long (lN (a &&& b)) :: st) X nc ns) : K pc loc (.long (lN b) :: .long (lN a) :: st) X nc ns := kw_land hB h (by rw [wb_and ha hb]; exact k)
theorem kl_lor (hB : ja_B l D g M d cm sm K) {a b : Nat} (h : ja_at M.2.1 pc pc' .lor 1) (ha : a < 2 ^ 64) (hb : b < 2 ^ 64) (k : K pc' loc (.long (lN (a ||| b)) :: st) X nc ns) : K pc loc (.long (lN b) :: .long (lN a) :: st) X nc ns := kw_lor hB h (by rw [wb_or ha hb]; exact k)
theorem kl_l2i (hB : ja_B l D g M d cm sm K) {a : Nat} (h : ja_at M.2.1 pc pc' .l2i 1) (k : K pc' loc (.int (nI a) :: st) X nc ns) : K pc loc (.long (lN a) :: st) X nc ns := kw_l2i hB h (lN_i a) k
theorem kl_i2l (hB : ja_B l D g M d cm sm K) {a : Nat} (h : ja_at M.2.1 pc pc' .i2l 1) (ha : a < 2 ^ 31) (k : K pc' loc (.long (lN a) :: st) X nc ns) : K pc loc (.int (nI a) :: st) X nc ns := kw_i2l hB h (nI_l ha) k
/-- lcmp, then ifeq -/
theorem kl_cmp_eq (hB : ja_B l D g M d cm sm K) {a b p1 p2 tgt : Nat} {off : Int} (h : ja_at M.2.1 pc p1 .lcmp 1) (h2 : ja_to M.2.1 p1 p2 tgt (.ifCond .eq off) off) (ha : a < 2 ^ 64) (hb : b < 2 ^ 64) (kt : a = b → K tgt loc st X nc ns) (kf : a ≠ b → K p2 loc st X nc ns) : K pc loc (.long (lN b) :: .long (lN a) :: st) X nc ns :=
  kw_lcmp hB h (kw_if_eq hB h2 (fun q => kt ((jl_eq ha hb).mp ((lg_cmp_eq _ _).mp q))) (fun q => kf (fun z => q ((lg_cmp_eq _ _).mpr ((jl_eq ha hb).mpr z)))))
theorem kl_cmp_ne (hB : ja_B l D g M d cm sm K) {a b p1 p2 tgt : Nat} {off : Int} (h : ja_at M.2.1 pc p1 .lcmp 1) (h2 : ja_to M.2.1 p1 p2 tgt (.ifCond .ne off) off) (ha : a < 2 ^ 64) (hb : b < 2 ^ 64) (kt : a ≠ b → K tgt loc st X nc ns) (kf : a = b → K p2 loc st X nc ns) : K pc loc (.long (lN b) :: .long (lN a) :: st) X nc ns :=
  kw_lcmp hB h (kw_if_ne hB h2 (fun q => kt (fun z => q ((lg_cmp_eq _ _).mpr ((jl_eq ha hb).mpr z)))) (fun q => kf ((jl_eq ha hb).mp ((lg_cmp_eq _ _).mp q))))
end JLN
section JSW
variable {l : Launch} {D : va_G} {g : Nat × Nat} {M : ja_M} {d cm sm : Nat} {K : ja_K} {pc : Nat} {loc st : List Value} {X : ja_H} {nc ns : Nat}
theorem kw_tableIn (hB : ja_B l D g M d cm sm K) {dflt lo hi : Int} {offs : Array Int} {len pc' : Nat} {x : Int32} {off : Int} {tgt : Nat} (hd : ja_at M.2.1 pc pc' (.tableswitch dflt lo hi offs) len) (h1 : ¬ x.toInt < lo) (h2 : ¬ hi < x.toInt) (ho : offs[(x.toInt - lo).toNat]? = some off) (ht : (pc : Int) + off = (tgt : Int)) (k : K tgt loc st X nc ns) : K pc loc (.int x :: st) X nc ns := by
  obtain ⟨p, e, R, s, m, args, below, meth, c, Q, hE, hc1, hs1, rfl⟩ := hB
  exact aw_tableIn hE hd.1 h1 h2 ho ht k
theorem kw_tableOut (hB : ja_B l D g M d cm sm K) {dflt lo hi : Int} {offs : Array Int} {len pc' : Nat} {x : Int32} {tgt : Nat} (hd : ja_at M.2.1 pc pc' (.tableswitch dflt lo hi offs) len) (h1 : x.toInt < lo ∨ hi < x.toInt) (ht : (pc : Int) + dflt = (tgt : Int)) (k : K tgt loc st X nc ns) : K pc loc (.int x :: st) X nc ns := by
  obtain ⟨p, e, R, s, m, args, below, meth, c, Q, hE, hc1, hs1, rfl⟩ := hB
  exact aw_tableOut hE hd.1 h1 ht k
theorem kw_lookup (hB : ja_B l D g M d cm sm K) {dflt : Int} {ps : Array (Int × Int)} {len pc' : Nat} {x : Int32} {off : Int} {tgt : Nat} (hd : ja_at M.2.1 pc pc' (.lookupswitch dflt ps) len) (hp : (ps.toList.zip (ps.toList.drop 1)).all (fun (a, next) => a.1 < next.1) = true) (ho : Op.lookupswitch.offset ps.toList dflt x.toInt = off) (ht : (pc : Int) + off = (tgt : Int)) (k : K tgt loc st X nc ns) : K pc loc (.int x :: st) X nc ns := by
  obtain ⟨p, e, R, s, m, args, below, meth, c, Q, hE, hc1, hs1, rfl⟩ := hB
  exact aw_lookup hE hd.1 hp ho ht k
end JSW
