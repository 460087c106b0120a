-- numbers and bits by nI
theorem jb_and (a b : Nat) : nI a &&& nI b = nI (a &&& b) := by
  apply Int32.toBitVec_inj.1
  show BitVec.ofNat 32 a &&& BitVec.ofNat 32 b = BitVec.ofNat 32 (a &&& b)
  apply BitVec.eq_of_getLsbD_eq
  intro i hi
  simp [hi]
theorem jb_or (a b : Nat) : nI a ||| nI b = nI (a ||| b) := by
  apply Int32.toBitVec_inj.1
  show BitVec.ofNat 32 a ||| BitVec.ofNat 32 b = BitVec.ofNat 32 (a ||| b)
  apply BitVec.eq_of_getLsbD_eq
  intro i hi
  simp [hi]
theorem jb_s : ∀ n, n < 32 → ((nI n &&& 31).toBitVec.smod 32).toNat = n := by decide +kernel
theorem jb_shl {a k : Nat} (hk : k < 32) (h : a * 2 ^ k < 2 ^ 32) : nI a <<< (nI k &&& 31) = nI (a * 2 ^ k) := pk_shlN _ k (jb_s k hk) h
theorem jb_shr {a k : Nat} (hk : k < 32) (h : a < 2 ^ 31) : nI a >>> (nI k &&& 31) = nI (a / 2 ^ k) := pk_shrN h _ k (jb_s k hk)
theorem jb_ne1 {a : Nat} (h : a < 2 ^ 31) : ¬ nI a = -1 := by
  intro e
  have := nI_toInt h
  rw [e] at this
  have h2 : (-1 : Int32).toInt = -1 := by decide
  omega
theorem jb_bit (a k : Nat) : a / 2 ^ k % 2 = if a.testBit k then 1 else 0 := by
  rw [Nat.testBit_eq_decide_div_mod_eq]
  by_cases h : a / 2 ^ k % 2 = 1
  · simp [h]
  · have : a / 2 ^ k % 2 = 0 := by omega
    simp [this]
theorem jb_one {k n g : Nat} (hg : g < 2 ^ n) (h : ¬ k < n) : g.testBit k = false := Nat.testBit_lt_two_pow (Nat.lt_of_lt_of_le hg (Nat.pow_le_pow_right (by decide) (by omega)))
section JN
variable {l : Launch} {D : va_G} {g : Nat × Nat} {M : ja_M} {d cm sm : Nat} {K : ja_K} {pc pc' : Nat} {loc st : List Value} {X : ja_H} {nc ns : Nat}
theorem kn_iand (hB : ja_B l D g M d cm sm K) {a b : Nat} (h : ja_at M.2.1 pc pc' .iand 1) (k : K pc' loc (.int (nI (a &&& b)) :: st) X nc ns) : K pc loc (.int (nI b) :: .int (nI a) :: st) X nc ns := kw_iand hB h (by rw [jb_and]; exact k)
theorem kn_ior (hB : ja_B l D g M d cm sm K) {a b : Nat} (h : ja_at M.2.1 pc pc' .ior 1) (k : K pc' loc (.int (nI (a ||| b)) :: st) X nc ns) : K pc loc (.int (nI b) :: .int (nI a) :: st) X nc ns := kw_ior hB h (by rw [jb_or]; exact k)
theorem kn_ishl (hB : ja_B l D g M d cm sm K) {a b : Nat} (h : ja_at M.2.1 pc pc' .ishl 1) (hb : b < 32) (hh : a * 2 ^ b < 2 ^ 32) (k : K pc' loc (.int (nI (a * 2 ^ b)) :: st) X nc ns) : K pc loc (.int (nI b) :: .int (nI a) :: st) X nc ns := kw_ishl hB h (by rw [jb_shl hb hh]; exact k)
theorem kn_ishr (hB : ja_B l D g M d cm sm K) {a b : Nat} (h : ja_at M.2.1 pc pc' .ishr 1) (hb : b < 32) (ha : a < 2 ^ 31) (k : K pc' loc (.int (nI (a / 2 ^ b)) :: st) X nc ns) : K pc loc (.int (nI b) :: .int (nI a) :: st) X nc ns := kw_ishr hB h (by rw [jb_shr hb ha]; exact k)
end JN
section JCOPY
variable {p : Program} {l : Launch} {e : Env} {R : Room} {s : State} {m : MethodId} {args : Array Value} {below : List Frame} {meth : Method} {c : Code} {Q : State → Prop} {D : va_G} {g : Nat × Nat} {M : ja_M} {d : Nat} {pc pc' : Nat} {loc st : List Value} {X : ja_H} {nc ns : Nat}
theorem aw_copyi (hE : ja_G p R s m args meth c D g M d) {idx q0 q1 t n0 n1 : Nat} {f h : Nat → Int32} {ty : FieldType} {sp dp n : Int32} (hat : ja_at M.2.1 pc pc' (.invokestatic idx) 3) (hw1 : Cond.methodLink M.1.cls idx arraycopyName ∈ ja_ws) (hw2 : Cond.native arraycopyName ∈ ja_ws) (hw3 : Cond.static arraycopyName ∈ ja_ws) (hw4 : Cond.initialized "java/lang/System" ∈ ja_ws) (hX0 : X[q0]? = some (.inl (t, n0, .inl f))) (hX1 : X[q1]? = some (.inl (t, n1, .inl h))) (ht : ja_ty[t]? = some ty) (hprim : refKind ty = false) (h1 : ¬ sp < 0) (h2 : ¬ dp < 0) (h3 : ¬ n < 0) (h4 : sp.toNatClampNeg + n.toNatClampNeg ≤ n0) (h5 : dp.toNatClampNeg + n.toNatClampNeg ≤ n1) (hfit : ∀ i, i < n.toNatClampNeg → fits ty (.int (f (sp.toNatClampNeg + i))) = true) (hd1 : 1 ≤ d) (hcat : (st.map fun v => v.category).sum + (nativeFrameWords "java/lang/System" "arraycopy" 5 + 11) ≤ 40 * d)
    (k : AW p l e R s m args below meth c Q D g M.2.2.1 pc' loc st (X.set q1 (.inl (t, n1, .inl (va_cpy f h sp.toNatClampNeg dp.toNatClampNeg n.toNatClampNeg)))) nc ns) : AW p l e R s m args below meth c Q D g M.2.2.1 pc loc (.int n :: .int dp :: .ref q1 :: .int sp :: .ref q0 :: st) X nc ns := by
  obtain ⟨hd, rfl⟩ := hat
  intro H locs ls hP hS hz h0 hl
  obtain ⟨k0, rfl⟩ := ja_pos_a h0 hX0
  obtain ⟨k1, rfl⟩ := ja_pos_a h0 hX1
  have hfr := hE.2.2.2.2.2.2.2.1
  have hlo := hE.2.2.2.2.2.2.2.2.1
  exact va_copyi (D := D) (cl := ja_cl) (ws := ja_w D g X) (A := fun q => g.2 ≤ q) hE.1 hE.2.1 (by rw [hE.2.2.1]; exact hl.1.symm) hE.2.2.2.1 (hE.2.2.2.2.1 _ hw1) (hE.2.2.2.2.1 _ hw2) (hE.2.2.2.2.1 _ hw3) (hE.2.2.2.2.1 _ hw4) hE.2.2.2.2.2.1 hP (ja_w_D D g X) hS k0 k1 t t (ja_w_at (D := D) (g := g) hX0) (ja_w_at (D := D) (g := g) hX1) (ja_t_at D ht) (ja_t_at D ht) hprim h1 h2 h3 h4 h5 hfit (by omega) (by rw [ja_catsum]; omega) hd
    (fun H1 locs1 hP1 _ hS1 => k H1 locs1 ls (by rw [← ja_w_set]; exact hP1) hS1 (by rw [List.length_set]; exact hz) (by rw [ja_set_head]; exact h0) hl)
end JCOPY
theorem kw_copyi {l : Launch} {D : va_G} {g : Nat × Nat} {M : ja_M} {d cm sm : Nat} {K : ja_K} {pc pc' : Nat} {loc st : List Value} {X : ja_H} {nc ns : Nat} (hB : ja_B l D g M d cm sm K) {idx q0 q1 t n0 n1 sp dp n : Nat} {f h : Nat → Int32} {ty : FieldType} (hat : ja_at M.2.1 pc pc' (.invokestatic idx) 3) (hw1 : Cond.methodLink M.1.cls idx arraycopyName ∈ ja_ws) (hX0 : X[q0]? = some (.inl (t, n0, .inl f))) (hX1 : X[q1]? = some (.inl (t, n1, .inl h))) (ht : ja_ty[t]? = some ty) (hprim : refKind ty = false) (h0 : n0 < 2 ^ 31) (h1 : n1 < 2 ^ 31) (h4 : sp + n ≤ n0) (h5 : dp + n ≤ n1) (hfit : ∀ i, i < n → fits ty (.int (f (sp + i))) = true) (hd1 : 1 ≤ d) (hcat : (st.map fun v => v.category).sum + (nativeFrameWords "java/lang/System" "arraycopy" 5 + 11) ≤ 40 * d)
    (k : K pc' loc st (X.set q1 (.inl (t, n1, .inl (va_cpy f h sp dp n)))) nc ns) : K pc loc (.int (nI n) :: .int (nI dp) :: .ref q1 :: .int (nI sp) :: .ref q0 :: st) X nc ns := by
  obtain ⟨p, e, R, s, m, args, below, meth, c, Q, hE, hc1, hs1, rfl⟩ := hB
  have e1 : (nI sp).toNatClampNeg = sp := nI_clamp (by omega)
  have e2 : (nI dp).toNatClampNeg = dp := nI_clamp (by omega)
  have e3 : (nI n).toNatClampNeg = n := nI_clamp (by omega)
  exact aw_copyi hE hat hw1 (jm 528 (by decide +kernel) rfl) (jm 527 (by decide +kernel) rfl) (jm 83 (by decide +kernel) rfl) hX0 hX1 ht hprim (nI_pos (by omega)) (nI_pos (by omega)) (nI_pos (by omega)) (by rw [e1, e3]; exact h4) (by rw [e2, e3]; exact h5) (by rw [e1, e3]; exact hfit) hd1 hcat (by rw [e1, e2, e3]; exact k)
