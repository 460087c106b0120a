-- the rows for a continuation K
abbrev ja_K : Type := Nat → List Value → List Value → ja_H → Nat → Nat → Prop
def ja_B (l : Launch) (D : va_G) (g : Nat × Nat) (M : ja_M) (d cm sm : Nat) (K : ja_K) : Prop := ∃ (p : Program) (e : Env) (R : Room) (s : State) (m : MethodId) (args : Array Value) (below : List Frame) (meth : Method) (c : Code) (Q : State → Prop), ja_G p R s m args meth c D g M d ∧ cm ≤ R.cells ∧ sm ≤ R.slots ∧ K = AW p l e R s m args below meth c Q D g M.2.2.1
def ja_E (l : Launch) (D : va_G) (g : Nat × Nat) (M : ja_M) (n mc ms : Nat) (Qp : Option Value → ja_H → Prop) (K : ja_K) : Prop := ∃ (p : Program) (e : Env) (R : Room) (s : State) (m : MethodId) (args : Array Value) (below : List Frame) (meth : Method) (c : Code) (d : Nat), ja_G p R s m args meth c D g M d ∧ K = AW p l e R s m args below meth c (MQ below (ja_Qc D g n Qp) args s mc ms (fun q => g.2 ≤ q)) D g M.2.2.1
theorem ja_metK {l : Launch} {D : va_G} {g : Nat × Nat} {d mc ms : Nat} {M : ja_M} {a : List Value} {X : ja_H} {Qp : Option Value → ja_H → Prop} {loc0 : List Value} (hy : plainName M.1.cls = true) (hl0 : ja_args M.2.2.1 a = loc0) (hlen : (lg_sl (a.map (ja_v g))).length ≤ M.2.2.1)
    (body : ∀ K : ja_K, ja_B l D g M d mc ms K → ja_E l D g M (X.length + mc) mc ms Qp K → K 0 loc0 [] X 0 0) : AMet l D g d mc ms M a X Qp :=
  ja_met hy hl0 hlen fun p e s m args below meth c hE => body _ ⟨p, e, _, s, m, args, below, meth, c, _, hE, Nat.le_refl _, Nat.le_refl _, rfl⟩ ⟨p, e, _, s, m, args, below, meth, c, d, hE, rfl⟩
section JK
variable {l : Launch} {D : va_G} {g : Nat × Nat} {M : ja_M} {d cm sm : Nat} {K : ja_K} {pc pc' : Nat} {loc st : List Value} {X : ja_H} {nc ns : Nat}
theorem kw_iconst (hB : ja_B l D g M d cm sm K) {n : Int} {v : Int32} (h : ja_at M.2.1 pc pc' (.iconst n) 1) (hv : Int32.ofInt n = v) (k : K pc' loc (.int v :: st) X nc ns) : K pc loc (st) X nc ns := by
  obtain ⟨p, e, R, s, m, args, below, meth, c, Q, hE, hc1, hs1, rfl⟩ := hB
  exact aw_iconst hE h hv k
theorem kw_bipush (hB : ja_B l D g M d cm sm K) {n : Int} {v : Int32} (h : ja_at M.2.1 pc pc' (.bipush n) 2) (hv : (Int8.ofInt n).toInt32 = v) (k : K pc' loc (.int v :: st) X nc ns) : K pc loc (st) X nc ns := by
  obtain ⟨p, e, R, s, m, args, below, meth, c, Q, hE, hc1, hs1, rfl⟩ := hB
  exact aw_bipush hE h hv k
theorem kw_sipush (hB : ja_B l D g M d cm sm K) {n : Int} {v : Int32} (h : ja_at M.2.1 pc pc' (.sipush n) 3) (hv : (Int16.ofInt n).toInt32 = v) (k : K pc' loc (.int v :: st) X nc ns) : K pc loc (st) X nc ns := by
  obtain ⟨p, e, R, s, m, args, below, meth, c, Q, hE, hc1, hs1, rfl⟩ := hB
  exact aw_sipush hE h hv k
theorem kw_lconst (hB : ja_B l D g M d cm sm K) {n : Fin 2} {v : Int64} (h : ja_at M.2.1 pc pc' (.lconst n) 1) (hv : Int64.ofNat (n : Nat) = v) (k : K pc' loc (.long v :: st) X nc ns) : K pc loc (st) X nc ns := by
  obtain ⟨p, e, R, s, m, args, below, meth, c, Q, hE, hc1, hs1, rfl⟩ := hB
  exact aw_lconst hE h hv k
theorem kw_ldc (hB : ja_B l D g M d cm sm K) {index : Nat} {v : Int32} (h : ja_at M.2.1 pc pc' (.ldc index) 2) (hw : Cond.constant M.1.cls index v ∈ ja_ws) (k : K pc' loc (.int v :: st) X nc ns) : K pc loc (st) X nc ns := by
  obtain ⟨p, e, R, s, m, args, below, meth, c, Q, hE, hc1, hs1, rfl⟩ := hB
  exact aw_ldc hE h hw k
theorem kw_ldcw (hB : ja_B l D g M d cm sm K) {index : Nat} {v : Int32} (h : ja_at M.2.1 pc pc' (.ldc_w index) 3) (hw : Cond.constant M.1.cls index v ∈ ja_ws) (k : K pc' loc (.int v :: st) X nc ns) : K pc loc (st) X nc ns := by
  obtain ⟨p, e, R, s, m, args, below, meth, c, Q, hE, hc1, hs1, rfl⟩ := hB
  exact aw_ldcw hE h hw k
theorem kw_ldc2 (hB : ja_B l D g M d cm sm K) {index : Nat} {v : Int64} (h : ja_at M.2.1 pc pc' (.ldc2_w index) 3) (hw : Cond.constantLong M.1.cls index v ∈ ja_ws) (k : K pc' loc (.long v :: st) X nc ns) : K pc loc (st) X nc ns := by
  obtain ⟨p, e, R, s, m, args, below, meth, c, Q, hE, hc1, hs1, rfl⟩ := hB
  exact aw_ldc2 hE h hw k
theorem kw_iload_n (hB : ja_B l D g M d cm sm K) {i : Fin 4} {v : Int32} (h : ja_at M.2.1 pc pc' (.iload_n i) 1) (hv : loc[(i : Nat)]? = some (.int v)) (k : K pc' loc (.int v :: st) X nc ns) : K pc loc (st) X nc ns := by
  obtain ⟨p, e, R, s, m, args, below, meth, c, Q, hE, hc1, hs1, rfl⟩ := hB
  exact aw_iload_n hE h hv k
theorem kw_iload (hB : ja_B l D g M d cm sm K) {i : Nat} {v : Int32} (h : ja_at M.2.1 pc pc' (.iload i) 2) (hv : loc[i]? = some (.int v)) (k : K pc' loc (.int v :: st) X nc ns) : K pc loc (st) X nc ns := by
  obtain ⟨p, e, R, s, m, args, below, meth, c, Q, hE, hc1, hs1, rfl⟩ := hB
  exact aw_iload hE h hv k
theorem kw_lload_n (hB : ja_B l D g M d cm sm K) {i : Fin 4} {v : Int64} (h : ja_at M.2.1 pc pc' (.lload_n i) 1) (hv : loc[(i : Nat)]? = some (.long v)) (k : K pc' loc (.long v :: st) X nc ns) : K pc loc (st) X nc ns := by
  obtain ⟨p, e, R, s, m, args, below, meth, c, Q, hE, hc1, hs1, rfl⟩ := hB
  exact aw_lload_n hE h hv k
theorem kw_lload (hB : ja_B l D g M d cm sm K) {i : Nat} {v : Int64} (h : ja_at M.2.1 pc pc' (.lload i) 2) (hv : loc[i]? = some (.long v)) (k : K pc' loc (.long v :: st) X nc ns) : K pc loc (st) X nc ns := by
  obtain ⟨p, e, R, s, m, args, below, meth, c, Q, hE, hc1, hs1, rfl⟩ := hB
  exact aw_lload hE h hv k
theorem kw_aload_n (hB : ja_B l D g M d cm sm K) {i : Fin 4} {v : Nat} (h : ja_at M.2.1 pc pc' (.aload_n i) 1) (hv : loc[(i : Nat)]? = some (.ref v)) (k : K pc' loc (.ref v :: st) X nc ns) : K pc loc (st) X nc ns := by
  obtain ⟨p, e, R, s, m, args, below, meth, c, Q, hE, hc1, hs1, rfl⟩ := hB
  exact aw_aload_n hE h hv k
theorem kw_aload (hB : ja_B l D g M d cm sm K) {i : Nat} {v : Nat} (h : ja_at M.2.1 pc pc' (.aload i) 2) (hv : loc[i]? = some (.ref v)) (k : K pc' loc (.ref v :: st) X nc ns) : K pc loc (st) X nc ns := by
  obtain ⟨p, e, R, s, m, args, below, meth, c, Q, hE, hc1, hs1, rfl⟩ := hB
  exact aw_aload hE h hv k
theorem kw_istore_n (hB : ja_B l D g M d cm sm K) {k : Fin 4} {i : Nat} {v : Int32} {loc' : List Value} (h : ja_at M.2.1 pc pc' (.istore_n k) 1) (hi : (k : Nat) = i) (hn : i < M.2.2.1) (hl' : ja_s1 loc i (.int v) = loc') (kk : K pc' loc' st X nc ns) : K pc loc (.int v :: st) X nc ns := by
  obtain ⟨p, e, R, s, m, args, below, meth, c, Q, hE, hc1, hs1, rfl⟩ := hB
  exact aw_istore_n hE h hi hn hl' kk
theorem kw_istore (hB : ja_B l D g M d cm sm K) {i : Nat} {v : Int32} {loc' : List Value} (h : ja_at M.2.1 pc pc' (.istore i) 2) (hn : i < M.2.2.1) (hl' : ja_s1 loc i (.int v) = loc') (kk : K pc' loc' st X nc ns) : K pc loc (.int v :: st) X nc ns := by
  obtain ⟨p, e, R, s, m, args, below, meth, c, Q, hE, hc1, hs1, rfl⟩ := hB
  exact aw_istore hE h hn hl' kk
theorem kw_lstore_n (hB : ja_B l D g M d cm sm K) {k : Fin 4} {i : Nat} {v : Int64} {loc' : List Value} (h : ja_at M.2.1 pc pc' (.lstore_n k) 1) (hi : (k : Nat) = i) (hn : i + 1 < M.2.2.1) (hl' : ja_s2 loc i (.long v) = loc') (kk : K pc' loc' st X nc ns) : K pc loc (.long v :: st) X nc ns := by
  obtain ⟨p, e, R, s, m, args, below, meth, c, Q, hE, hc1, hs1, rfl⟩ := hB
  exact aw_lstore_n hE h hi hn hl' kk
theorem kw_lstore (hB : ja_B l D g M d cm sm K) {i : Nat} {v : Int64} {loc' : List Value} (h : ja_at M.2.1 pc pc' (.lstore i) 2) (hn : i + 1 < M.2.2.1) (hl' : ja_s2 loc i (.long v) = loc') (kk : K pc' loc' st X nc ns) : K pc loc (.long v :: st) X nc ns := by
  obtain ⟨p, e, R, s, m, args, below, meth, c, Q, hE, hc1, hs1, rfl⟩ := hB
  exact aw_lstore hE h hn hl' kk
theorem kw_astore_n (hB : ja_B l D g M d cm sm K) {k : Fin 4} {i : Nat} {v : Nat} {loc' : List Value} (h : ja_at M.2.1 pc pc' (.astore_n k) 1) (hi : (k : Nat) = i) (hn : i < M.2.2.1) (hl' : ja_s1 loc i (.ref v) = loc') (kk : K pc' loc' st X nc ns) : K pc loc (.ref v :: st) X nc ns := by
  obtain ⟨p, e, R, s, m, args, below, meth, c, Q, hE, hc1, hs1, rfl⟩ := hB
  exact aw_astore_n hE h hi hn hl' kk
theorem kw_astore (hB : ja_B l D g M d cm sm K) {i : Nat} {v : Nat} {loc' : List Value} (h : ja_at M.2.1 pc pc' (.astore i) 2) (hn : i < M.2.2.1) (hl' : ja_s1 loc i (.ref v) = loc') (kk : K pc' loc' st X nc ns) : K pc loc (.ref v :: st) X nc ns := by
  obtain ⟨p, e, R, s, m, args, below, meth, c, Q, hE, hc1, hs1, rfl⟩ := hB
  exact aw_astore hE h hn hl' kk
theorem kw_iinc (hB : ja_B l D g M d cm sm K) {i : Nat} {n : Int} {x v : Int32} {loc' : List Value} (h : ja_at M.2.1 pc pc' (.iinc i n) 3) (hx : loc[i]? = some (.int x)) (hv : x + Int32.ofInt n = v) (hn : i < M.2.2.1) (hl' : ja_s1 loc i (.int v) = loc') (kk : K pc' loc' st X nc ns) : K pc loc st X nc ns := by
  obtain ⟨p, e, R, s, m, args, below, meth, c, Q, hE, hc1, hs1, rfl⟩ := hB
  exact aw_iinc hE h hx hv hn hl' kk
theorem kw_iadd (hB : ja_B l D g M d cm sm K) {x y : Int32} (h : ja_at M.2.1 pc pc' .iadd 1) (k : K pc' loc (.int (x + y) :: st) X nc ns) : K pc loc (.int y :: .int x :: st) X nc ns := by
  obtain ⟨p, e, R, s, m, args, below, meth, c, Q, hE, hc1, hs1, rfl⟩ := hB
  exact aw_iadd hE h k
theorem kw_isub (hB : ja_B l D g M d cm sm K) {x y : Int32} (h : ja_at M.2.1 pc pc' .isub 1) (k : K pc' loc (.int (x - y) :: st) X nc ns) : K pc loc (.int y :: .int x :: st) X nc ns := by
  obtain ⟨p, e, R, s, m, args, below, meth, c, Q, hE, hc1, hs1, rfl⟩ := hB
  exact aw_isub hE h k
theorem kw_imul (hB : ja_B l D g M d cm sm K) {x y : Int32} (h : ja_at M.2.1 pc pc' .imul 1) (k : K pc' loc (.int (x * y) :: st) X nc ns) : K pc loc (.int y :: .int x :: st) X nc ns := by
  obtain ⟨p, e, R, s, m, args, below, meth, c, Q, hE, hc1, hs1, rfl⟩ := hB
  exact aw_imul hE h k
theorem kw_iand (hB : ja_B l D g M d cm sm K) {x y : Int32} (h : ja_at M.2.1 pc pc' .iand 1) (k : K pc' loc (.int (x &&& y) :: st) X nc ns) : K pc loc (.int y :: .int x :: st) X nc ns := by
  obtain ⟨p, e, R, s, m, args, below, meth, c, Q, hE, hc1, hs1, rfl⟩ := hB
  exact aw_iand hE h k
theorem kw_ior (hB : ja_B l D g M d cm sm K) {x y : Int32} (h : ja_at M.2.1 pc pc' .ior 1) (k : K pc' loc (.int (x ||| y) :: st) X nc ns) : K pc loc (.int y :: .int x :: st) X nc ns := by
  obtain ⟨p, e, R, s, m, args, below, meth, c, Q, hE, hc1, hs1, rfl⟩ := hB
  exact aw_ior hE h k
theorem kw_ixor (hB : ja_B l D g M d cm sm K) {x y : Int32} (h : ja_at M.2.1 pc pc' .ixor 1) (k : K pc' loc (.int (x ^^^ y) :: st) X nc ns) : K pc loc (.int y :: .int x :: st) X nc ns := by
  obtain ⟨p, e, R, s, m, args, below, meth, c, Q, hE, hc1, hs1, rfl⟩ := hB
  exact aw_ixor hE h k
theorem kw_ishl (hB : ja_B l D g M d cm sm K) {x y : Int32} (h : ja_at M.2.1 pc pc' .ishl 1) (k : K pc' loc (.int (x <<< (y &&& 31)) :: st) X nc ns) : K pc loc (.int y :: .int x :: st) X nc ns := by
  obtain ⟨p, e, R, s, m, args, below, meth, c, Q, hE, hc1, hs1, rfl⟩ := hB
  exact aw_ishl hE h k
theorem kw_ishr (hB : ja_B l D g M d cm sm K) {x y : Int32} (h : ja_at M.2.1 pc pc' .ishr 1) (k : K pc' loc (.int (x >>> (y &&& 31)) :: st) X nc ns) : K pc loc (.int y :: .int x :: st) X nc ns := by
  obtain ⟨p, e, R, s, m, args, below, meth, c, Q, hE, hc1, hs1, rfl⟩ := hB
  exact aw_ishr hE h k
theorem kw_iushr (hB : ja_B l D g M d cm sm K) {x y v : Int32} (h : ja_at M.2.1 pc pc' .iushr 1) (hv : (x.toUInt32 >>> (y.toUInt32 &&& Int32.toUInt32 31)).toInt32 = v) (k : K pc' loc (.int v :: st) X nc ns) : K pc loc (.int y :: .int x :: st) X nc ns := by
  obtain ⟨p, e, R, s, m, args, below, meth, c, Q, hE, hc1, hs1, rfl⟩ := hB
  exact aw_iushr hE h hv k
theorem kw_idiv (hB : ja_B l D g M d cm sm K) {x y : Int32} (h : ja_at M.2.1 pc pc' .idiv 1) (hne : ¬ y = 0) (k : K pc' loc (.int (x / y) :: st) X nc ns) : K pc loc (.int y :: .int x :: st) X nc ns := by
  obtain ⟨p, e, R, s, m, args, below, meth, c, Q, hE, hc1, hs1, rfl⟩ := hB
  exact aw_idiv hE h hne k
theorem kw_irem (hB : ja_B l D g M d cm sm K) {x y : Int32} (h : ja_at M.2.1 pc pc' .irem 1) (hne : ¬ y = 0) (k : K pc' loc (.int (x - x / y * y) :: st) X nc ns) : K pc loc (.int y :: .int x :: st) X nc ns := by
  obtain ⟨p, e, R, s, m, args, below, meth, c, Q, hE, hc1, hs1, rfl⟩ := hB
  exact aw_irem hE h hne k
theorem kw_ineg (hB : ja_B l D g M d cm sm K) {x : Int32} (h : ja_at M.2.1 pc pc' .ineg 1) (k : K pc' loc (.int (-x) :: st) X nc ns) : K pc loc (.int x :: st) X nc ns := by
  obtain ⟨p, e, R, s, m, args, below, meth, c, Q, hE, hc1, hs1, rfl⟩ := hB
  exact aw_ineg hE h k
theorem kw_ladd (hB : ja_B l D g M d cm sm K) {x y : Int64} (h : ja_at M.2.1 pc pc' .ladd 1) (k : K pc' loc (.long (x + y) :: st) X nc ns) : K pc loc (.long y :: .long x :: st) X nc ns := by
  obtain ⟨p, e, R, s, m, args, below, meth, c, Q, hE, hc1, hs1, rfl⟩ := hB
  exact aw_ladd hE h k
theorem kw_lsub (hB : ja_B l D g M d cm sm K) {x y : Int64} (h : ja_at M.2.1 pc pc' .lsub 1) (k : K pc' loc (.long (x - y) :: st) X nc ns) : K pc loc (.long y :: .long x :: st) X nc ns := by
  obtain ⟨p, e, R, s, m, args, below, meth, c, Q, hE, hc1, hs1, rfl⟩ := hB
  exact aw_lsub hE h k
theorem kw_lmul (hB : ja_B l D g M d cm sm K) {x y : Int64} (h : ja_at M.2.1 pc pc' .lmul 1) (k : K pc' loc (.long (x * y) :: st) X nc ns) : K pc loc (.long y :: .long x :: st) X nc ns := by
  obtain ⟨p, e, R, s, m, args, below, meth, c, Q, hE, hc1, hs1, rfl⟩ := hB
  exact aw_lmul hE h k
theorem kw_land (hB : ja_B l D g M d cm sm K) {x y : Int64} (h : ja_at M.2.1 pc pc' .land 1) (k : K pc' loc (.long (x &&& y) :: st) X nc ns) : K pc loc (.long y :: .long x :: st) X nc ns := by
  obtain ⟨p, e, R, s, m, args, below, meth, c, Q, hE, hc1, hs1, rfl⟩ := hB
  exact aw_land hE h k
theorem kw_lor (hB : ja_B l D g M d cm sm K) {x y : Int64} (h : ja_at M.2.1 pc pc' .lor 1) (k : K pc' loc (.long (x ||| y) :: st) X nc ns) : K pc loc (.long y :: .long x :: st) X nc ns := by
  obtain ⟨p, e, R, s, m, args, below, meth, c, Q, hE, hc1, hs1, rfl⟩ := hB
  exact aw_lor hE h k
theorem kw_lxor (hB : ja_B l D g M d cm sm K) {x y : Int64} (h : ja_at M.2.1 pc pc' .lxor 1) (k : K pc' loc (.long (x ^^^ y) :: st) X nc ns) : K pc loc (.long y :: .long x :: st) X nc ns := by
  obtain ⟨p, e, R, s, m, args, below, meth, c, Q, hE, hc1, hs1, rfl⟩ := hB
  exact aw_lxor hE h k
theorem kw_lshl (hB : ja_B l D g M d cm sm K) {x v : Int64} {y : Int32} (h : ja_at M.2.1 pc pc' .lshl 1) (hv : x <<< (y.toInt64 &&& 63) = v) (k : K pc' loc (.long v :: st) X nc ns) : K pc loc (.int y :: .long x :: st) X nc ns := by
  obtain ⟨p, e, R, s, m, args, below, meth, c, Q, hE, hc1, hs1, rfl⟩ := hB
  exact aw_lshl hE h hv k
theorem kw_lushr (hB : ja_B l D g M d cm sm K) {x v : Int64} {y : Int32} (h : ja_at M.2.1 pc pc' .lushr 1) (hv : (x.toUInt64 >>> (y.toInt64.toUInt64 &&& Int64.toUInt64 63)).toInt64 = v) (k : K pc' loc (.long v :: st) X nc ns) : K pc loc (.int y :: .long x :: st) X nc ns := by
  obtain ⟨p, e, R, s, m, args, below, meth, c, Q, hE, hc1, hs1, rfl⟩ := hB
  exact aw_lushr hE h hv k
theorem kw_i2l (hB : ja_B l D g M d cm sm K) {x : Int32} {v : Int64} (h : ja_at M.2.1 pc pc' .i2l 1) (hv : x.toInt64 = v) (k : K pc' loc (.long v :: st) X nc ns) : K pc loc (.int x :: st) X nc ns := by
  obtain ⟨p, e, R, s, m, args, below, meth, c, Q, hE, hc1, hs1, rfl⟩ := hB
  exact aw_i2l hE h hv k
theorem kw_l2i (hB : ja_B l D g M d cm sm K) {x : Int64} {v : Int32} (h : ja_at M.2.1 pc pc' .l2i 1) (hv : x.toInt32 = v) (k : K pc' loc (.int v :: st) X nc ns) : K pc loc (.long x :: st) X nc ns := by
  obtain ⟨p, e, R, s, m, args, below, meth, c, Q, hE, hc1, hs1, rfl⟩ := hB
  exact aw_l2i hE h hv k
theorem kw_ldiv (hB : ja_B l D g M d cm sm K) {x y : Int64} (h : ja_at M.2.1 pc pc' .ldiv 1) (hne : ¬ y = 0) (k : K pc' loc (.long (x / y) :: st) X nc ns) : K pc loc (.long y :: .long x :: st) X nc ns := by
  obtain ⟨p, e, R, s, m, args, below, meth, c, Q, hE, hc1, hs1, rfl⟩ := hB
  exact aw_ldiv hE h hne k
theorem kw_lrem (hB : ja_B l D g M d cm sm K) {x y : Int64} (h : ja_at M.2.1 pc pc' .lrem 1) (hne : ¬ y = 0) (k : K pc' loc (.long (x - x / y * y) :: st) X nc ns) : K pc loc (.long y :: .long x :: st) X nc ns := by
  obtain ⟨p, e, R, s, m, args, below, meth, c, Q, hE, hc1, hs1, rfl⟩ := hB
  exact aw_lrem hE h hne k
theorem kw_lshr (hB : ja_B l D g M d cm sm K) {x v : Int64} {y : Int32} (h : ja_at M.2.1 pc pc' .lshr 1) (hv : x >>> (y.toInt64 &&& 63) = v) (k : K pc' loc (.long v :: st) X nc ns) : K pc loc (.int y :: .long x :: st) X nc ns := by
  obtain ⟨p, e, R, s, m, args, below, meth, c, Q, hE, hc1, hs1, rfl⟩ := hB
  exact aw_lshr hE h hv k
theorem kw_i2b (hB : ja_B l D g M d cm sm K) {x v : Int32} (h : ja_at M.2.1 pc pc' .i2b 1) (hv : x.toInt8.toInt32 = v) (k : K pc' loc (.int v :: st) X nc ns) : K pc loc (.int x :: st) X nc ns := by
  obtain ⟨p, e, R, s, m, args, below, meth, c, Q, hE, hc1, hs1, rfl⟩ := hB
  exact aw_i2b hE h hv k
theorem kw_lcmp (hB : ja_B l D g M d cm sm K) {x y : Int64} (h : ja_at M.2.1 pc pc' .lcmp 1) (k : K pc' loc (.int (lg_cmp x y) :: st) X nc ns) : K pc loc (.long y :: .long x :: st) X nc ns := by
  obtain ⟨p, e, R, s, m, args, below, meth, c, Q, hE, hc1, hs1, rfl⟩ := hB
  exact aw_lcmp hE h k
theorem kw_dup (hB : ja_B l D g M d cm sm K) {va : Value} (h : ja_at M.2.1 pc pc' .dup 1) (ha : va.category = 1) (k : K pc' loc (va :: va :: st) X nc ns) : K pc loc (va :: st) X nc ns := by
  obtain ⟨p, e, R, s, m, args, below, meth, c, Q, hE, hc1, hs1, rfl⟩ := hB
  exact aw_dup hE h ha k
theorem kw_pop (hB : ja_B l D g M d cm sm K) {va : Value} (h : ja_at M.2.1 pc pc' .pop 1) (ha : va.category = 1) (k : K pc' loc (st) X nc ns) : K pc loc (va :: st) X nc ns := by
  obtain ⟨p, e, R, s, m, args, below, meth, c, Q, hE, hc1, hs1, rfl⟩ := hB
  exact aw_pop hE h ha k
theorem kw_pop2 (hB : ja_B l D g M d cm sm K) {va : Value} (h : ja_at M.2.1 pc pc' .pop2 1) (ha : va.category = 2) (k : K pc' loc (st) X nc ns) : K pc loc (va :: st) X nc ns := by
  obtain ⟨p, e, R, s, m, args, below, meth, c, Q, hE, hc1, hs1, rfl⟩ := hB
  exact aw_pop2 hE h ha k
theorem kw_dup_x1 (hB : ja_B l D g M d cm sm K) {va vb : Value} (h : ja_at M.2.1 pc pc' .dup_x1 1) (ha : va.category = 1) (hb : vb.category = 1) (k : K pc' loc (va :: vb :: va :: st) X nc ns) : K pc loc (va :: vb :: st) X nc ns := by
  obtain ⟨p, e, R, s, m, args, below, meth, c, Q, hE, hc1, hs1, rfl⟩ := hB
  exact aw_dup_x1 hE h ha hb k
theorem kw_dup_x2 (hB : ja_B l D g M d cm sm K) {va vb vd : Value} (h : ja_at M.2.1 pc pc' .dup_x2 1) (ha : va.category = 1) (hb : vb.category = 1) (hd1 : vd.category = 1) (k : K pc' loc (va :: vb :: vd :: va :: st) X nc ns) : K pc loc (va :: vb :: vd :: st) X nc ns := by
  obtain ⟨p, e, R, s, m, args, below, meth, c, Q, hE, hc1, hs1, rfl⟩ := hB
  exact aw_dup_x2 hE h ha hb hd1 k
theorem kw_dup2 (hB : ja_B l D g M d cm sm K) {va vb : Value} (h : ja_at M.2.1 pc pc' .dup2 1) (ha : va.category = 1) (hb : vb.category = 1) (k : K pc' loc (va :: vb :: va :: vb :: st) X nc ns) : K pc loc (va :: vb :: st) X nc ns := by
  obtain ⟨p, e, R, s, m, args, below, meth, c, Q, hE, hc1, hs1, rfl⟩ := hB
  exact aw_dup2 hE h ha hb k
theorem kw_dup2L (hB : ja_B l D g M d cm sm K) {va : Value} (h : ja_at M.2.1 pc pc' .dup2 1) (ha : va.category = 2) (k : K pc' loc (va :: va :: st) X nc ns) : K pc loc (va :: st) X nc ns := by
  obtain ⟨p, e, R, s, m, args, below, meth, c, Q, hE, hc1, hs1, rfl⟩ := hB
  exact aw_dup2L hE h ha k
theorem kw_if_eq (hB : ja_B l D g M d cm sm K) {x : Int32} {off : Int} {tgt : Nat} (h : ja_to M.2.1 pc pc' tgt (.ifCond .eq off) off) (kt : x = 0 → K tgt loc st X nc ns) (kf : ¬ x = 0 → K pc' loc st X nc ns) : K pc loc (.int x :: st) X nc ns := by
  obtain ⟨p, e, R, s, m, args, below, meth, c, Q, hE, hc1, hs1, rfl⟩ := hB
  exact aw_if_eq hE h kt kf
theorem kw_if_ne (hB : ja_B l D g M d cm sm K) {x : Int32} {off : Int} {tgt : Nat} (h : ja_to M.2.1 pc pc' tgt (.ifCond .ne off) off) (kt : ¬ x = 0 → K tgt loc st X nc ns) (kf : x = 0 → K pc' loc st X nc ns) : K pc loc (.int x :: st) X nc ns := by
  obtain ⟨p, e, R, s, m, args, below, meth, c, Q, hE, hc1, hs1, rfl⟩ := hB
  exact aw_if_ne hE h kt kf
theorem kw_if_lt (hB : ja_B l D g M d cm sm K) {x : Int32} {off : Int} {tgt : Nat} (h : ja_to M.2.1 pc pc' tgt (.ifCond .lt off) off) (kt : x < 0 → K tgt loc st X nc ns) (kf : ¬ x < 0 → K pc' loc st X nc ns) : K pc loc (.int x :: st) X nc ns := by
  obtain ⟨p, e, R, s, m, args, below, meth, c, Q, hE, hc1, hs1, rfl⟩ := hB
  exact aw_if_lt hE h kt kf
theorem kw_if_ge (hB : ja_B l D g M d cm sm K) {x : Int32} {off : Int} {tgt : Nat} (h : ja_to M.2.1 pc pc' tgt (.ifCond .ge off) off) (kt : 0 ≤ x → K tgt loc st X nc ns) (kf : ¬ 0 ≤ x → K pc' loc st X nc ns) : K pc loc (.int x :: st) X nc ns := by
  obtain ⟨p, e, R, s, m, args, below, meth, c, Q, hE, hc1, hs1, rfl⟩ := hB
  exact aw_if_ge hE h kt kf
theorem kw_if_gt (hB : ja_B l D g M d cm sm K) {x : Int32} {off : Int} {tgt : Nat} (h : ja_to M.2.1 pc pc' tgt (.ifCond .gt off) off) (kt : 0 < x → K tgt loc st X nc ns) (kf : ¬ 0 < x → K pc' loc st X nc ns) : K pc loc (.int x :: st) X nc ns := by
  obtain ⟨p, e, R, s, m, args, below, meth, c, Q, hE, hc1, hs1, rfl⟩ := hB
  exact aw_if_gt hE h kt kf
theorem kw_if_le (hB : ja_B l D g M d cm sm K) {x : Int32} {off : Int} {tgt : Nat} (h : ja_to M.2.1 pc pc' tgt (.ifCond .le off) off) (kt : x ≤ 0 → K tgt loc st X nc ns) (kf : ¬ x ≤ 0 → K pc' loc st X nc ns) : K pc loc (.int x :: st) X nc ns := by
  obtain ⟨p, e, R, s, m, args, below, meth, c, Q, hE, hc1, hs1, rfl⟩ := hB
  exact aw_if_le hE h kt kf
theorem kw_icmp_eq (hB : ja_B l D g M d cm sm K) {x y : Int32} {off : Int} {tgt : Nat} (h : ja_to M.2.1 pc pc' tgt (.if_icmp .eq off) off) (kt : x = y → K tgt loc st X nc ns) (kf : ¬ x = y → K pc' loc st X nc ns) : K pc loc (.int y :: .int x :: st) X nc ns := by
  obtain ⟨p, e, R, s, m, args, below, meth, c, Q, hE, hc1, hs1, rfl⟩ := hB
  exact aw_icmp_eq hE h kt kf
theorem kw_icmp_ne (hB : ja_B l D g M d cm sm K) {x y : Int32} {off : Int} {tgt : Nat} (h : ja_to M.2.1 pc pc' tgt (.if_icmp .ne off) off) (kt : ¬ x = y → K tgt loc st X nc ns) (kf : x = y → K pc' loc st X nc ns) : K pc loc (.int y :: .int x :: st) X nc ns := by
  obtain ⟨p, e, R, s, m, args, below, meth, c, Q, hE, hc1, hs1, rfl⟩ := hB
  exact aw_icmp_ne hE h kt kf
theorem kw_icmp_lt (hB : ja_B l D g M d cm sm K) {x y : Int32} {off : Int} {tgt : Nat} (h : ja_to M.2.1 pc pc' tgt (.if_icmp .lt off) off) (kt : x < y → K tgt loc st X nc ns) (kf : ¬ x < y → K pc' loc st X nc ns) : K pc loc (.int y :: .int x :: st) X nc ns := by
  obtain ⟨p, e, R, s, m, args, below, meth, c, Q, hE, hc1, hs1, rfl⟩ := hB
  exact aw_icmp_lt hE h kt kf
theorem kw_icmp_ge (hB : ja_B l D g M d cm sm K) {x y : Int32} {off : Int} {tgt : Nat} (h : ja_to M.2.1 pc pc' tgt (.if_icmp .ge off) off) (kt : y ≤ x → K tgt loc st X nc ns) (kf : ¬ y ≤ x → K pc' loc st X nc ns) : K pc loc (.int y :: .int x :: st) X nc ns := by
  obtain ⟨p, e, R, s, m, args, below, meth, c, Q, hE, hc1, hs1, rfl⟩ := hB
  exact aw_icmp_ge hE h kt kf
theorem kw_icmp_gt (hB : ja_B l D g M d cm sm K) {x y : Int32} {off : Int} {tgt : Nat} (h : ja_to M.2.1 pc pc' tgt (.if_icmp .gt off) off) (kt : y < x → K tgt loc st X nc ns) (kf : ¬ y < x → K pc' loc st X nc ns) : K pc loc (.int y :: .int x :: st) X nc ns := by
  obtain ⟨p, e, R, s, m, args, below, meth, c, Q, hE, hc1, hs1, rfl⟩ := hB
  exact aw_icmp_gt hE h kt kf
theorem kw_icmp_le (hB : ja_B l D g M d cm sm K) {x y : Int32} {off : Int} {tgt : Nat} (h : ja_to M.2.1 pc pc' tgt (.if_icmp .le off) off) (kt : x ≤ y → K tgt loc st X nc ns) (kf : ¬ x ≤ y → K pc' loc st X nc ns) : K pc loc (.int y :: .int x :: st) X nc ns := by
  obtain ⟨p, e, R, s, m, args, below, meth, c, Q, hE, hc1, hs1, rfl⟩ := hB
  exact aw_icmp_le hE h kt kf
theorem kw_goto (hB : ja_B l D g M d cm sm K) {off : Int} {tgt : Nat} (h : ja_to M.2.1 pc pc' tgt (.goto off) off) (k : K tgt loc st X nc ns) : K pc loc st X nc ns := by
  obtain ⟨p, e, R, s, m, args, below, meth, c, Q, hE, hc1, hs1, rfl⟩ := hB
  exact aw_goto hE h k
theorem kw_getf (hB : ja_B l D g M d cm sm K) {idx ci j q : Nat} {fs : List Value} {v : Value} (h : ja_at M.2.1 pc pc' (.getfield idx) 3) (hf : ja_fld M.1.cls idx ci j) (hX : X[q]? = some (.inr (ci, fs))) (hv : fs[j]? = some v) (k : K pc' loc (v :: st) X nc ns) : K pc loc (.ref q :: st) X nc ns := by
  obtain ⟨p, e, R, s, m, args, below, meth, c, Q, hE, hc1, hs1, rfl⟩ := hB
  exact aw_getf hE h hf hX hv k
theorem kw_putf (hB : ja_B l D g M d cm sm K) {idx ci j q : Nat} {fs : List Value} {v : Value} {dcl : String} {ty : FieldType} (h : ja_at M.2.1 pc pc' (.putfield idx) 3) (hf : ja_fld M.1.cls idx ci j) (hk : ja_cls ci) (hs : ja_sto ci j false dcl ty) (hX : X[q]? = some (.inr (ci, fs))) (hl1 : j < fs.length) (hn : narrow ty (ja_v g v) = ja_v g v) (hfit : fits ty (ja_v g v) = true) (k : K pc' loc st (X.set q (.inr (ci, fs.set j v))) nc ns) : K pc loc (v :: .ref q :: st) X nc ns := by
  obtain ⟨p, e, R, s, m, args, below, meth, c, Q, hE, hc1, hs1, rfl⟩ := hB
  exact aw_putf hE h hf hk hs hX hl1 hn hfit k
theorem kw_putF (hB : ja_B l D g M d cm sm K) {idx ci j q : Nat} {fs : List Value} {v : Value} {ty : FieldType} (h : ja_at M.2.1 pc pc' (.putfield idx) 3) (hlk : ∃ r : vw_C, ja_cl[ci]? = some r ∧ (∀ w ∈ u_ws r.1 r.2.1 r.2.2, w ∈ ja_ws) ∧ j < r.2.2 ∧ Cond.fieldLink M.1.cls idx (r.2.1 j).1 (r.2.1 j).2.1 (r.2.1 j).2.2.1 ∈ ja_ws) (hk : ja_cls ci) (hs : ja_sto ci j true M.1.cls ty) (hi : M.1.name = "<init>") (hX : X[q]? = some (.inr (ci, fs))) (hl1 : j < fs.length) (hn : narrow ty (ja_v g v) = ja_v g v) (hfit : fits ty (ja_v g v) = true) (k : K pc' loc st (X.set q (.inr (ci, fs.set j v))) nc ns) : K pc loc (v :: .ref q :: st) X nc ns := by
  obtain ⟨p, e, R, s, m, args, below, meth, c, Q, hE, hc1, hs1, rfl⟩ := hB
  exact aw_putF hE h hlk hk hs hi hX hl1 hn hfit k
theorem kw_iald (hB : ja_B l D g M d cm sm K) {q t n : Nat} {f : Nat → Int32} {i : Int32} (h : ja_at M.2.1 pc pc' .iaload 1) (hX : X[q]? = some (.inl (t, n, .inl f))) (ht : ja_ty[t]? = some .int) (hin : vp_in i n) (k : K pc' loc (.int (f i.toNatClampNeg) :: st) X nc ns) : K pc loc (.int i :: .ref q :: st) X nc ns := by
  obtain ⟨p, e, R, s, m, args, below, meth, c, Q, hE, hc1, hs1, rfl⟩ := hB
  exact aw_iald hE h hX ht hin k
theorem kw_zald (hB : ja_B l D g M d cm sm K) {q t n : Nat} {f : Nat → Int32} {i : Int32} (h : ja_at M.2.1 pc pc' .baload 1) (hX : X[q]? = some (.inl (t, n, .inl f))) (ht : ja_ty[t]? = some .boolean) (hin : vp_in i n) (k : K pc' loc (.int (f i.toNatClampNeg) :: st) X nc ns) : K pc loc (.int i :: .ref q :: st) X nc ns := by
  obtain ⟨p, e, R, s, m, args, below, meth, c, Q, hE, hc1, hs1, rfl⟩ := hB
  exact aw_zald hE h hX ht hin k
theorem kw_bald (hB : ja_B l D g M d cm sm K) {q t n : Nat} {f : Nat → Int32} {i : Int32} (h : ja_at M.2.1 pc pc' .baload 1) (hX : X[q]? = some (.inl (t, n, .inl f))) (ht : ja_ty[t]? = some .byte) (hin : vp_in i n) (k : K pc' loc (.int (f i.toNatClampNeg) :: st) X nc ns) : K pc loc (.int i :: .ref q :: st) X nc ns := by
  obtain ⟨p, e, R, s, m, args, below, meth, c, Q, hE, hc1, hs1, rfl⟩ := hB
  exact aw_bald hE h hX ht hin k
theorem kw_lald (hB : ja_B l D g M d cm sm K) {q t n : Nat} {f : Nat → Int64} {i : Int32} (h : ja_at M.2.1 pc pc' .laload 1) (hX : X[q]? = some (.inl (t, n, .inr (.inl f)))) (ht : ja_ty[t]? = some .long) (hin : vp_in i n) (k : K pc' loc (.long (f i.toNatClampNeg) :: st) X nc ns) : K pc loc (.int i :: .ref q :: st) X nc ns := by
  obtain ⟨p, e, R, s, m, args, below, meth, c, Q, hE, hc1, hs1, rfl⟩ := hB
  exact aw_lald hE h hX ht hin k
theorem kw_iast (hB : ja_B l D g M d cm sm K) {q t n : Nat} {f : Nat → Int32} {i : Int32} {x : Int32} (h : ja_at M.2.1 pc pc' .iastore 1) (hX : X[q]? = some (.inl (t, n, .inl f))) (ht : ja_ty[t]? = some .int) (hin : vp_in i n) (k : K pc' loc st (X.set q (.inl (t, n, .inl (upd f i.toNatClampNeg x)))) nc ns) : K pc loc (.int x :: .int i :: .ref q :: st) X nc ns := by
  obtain ⟨p, e, R, s, m, args, below, meth, c, Q, hE, hc1, hs1, rfl⟩ := hB
  exact aw_iast hE h hX ht hin k
theorem kw_zast (hB : ja_B l D g M d cm sm K) {q t n : Nat} {f : Nat → Int32} {i : Int32} {x : Int32} (h : ja_at M.2.1 pc pc' .bastore 1) (hX : X[q]? = some (.inl (t, n, .inl f))) (ht : ja_ty[t]? = some .boolean) (hin : vp_in i n) (k : K pc' loc st (X.set q (.inl (t, n, .inl (upd f i.toNatClampNeg (vp_nar .boolean x))))) nc ns) : K pc loc (.int x :: .int i :: .ref q :: st) X nc ns := by
  obtain ⟨p, e, R, s, m, args, below, meth, c, Q, hE, hc1, hs1, rfl⟩ := hB
  exact aw_zast hE h hX ht hin k
theorem kw_bast (hB : ja_B l D g M d cm sm K) {q t n : Nat} {f : Nat → Int32} {i : Int32} {x : Int32} (h : ja_at M.2.1 pc pc' .bastore 1) (hX : X[q]? = some (.inl (t, n, .inl f))) (ht : ja_ty[t]? = some .byte) (hin : vp_in i n) (k : K pc' loc st (X.set q (.inl (t, n, .inl (upd f i.toNatClampNeg (vp_nar .byte x))))) nc ns) : K pc loc (.int x :: .int i :: .ref q :: st) X nc ns := by
  obtain ⟨p, e, R, s, m, args, below, meth, c, Q, hE, hc1, hs1, rfl⟩ := hB
  exact aw_bast hE h hX ht hin k
theorem kw_last (hB : ja_B l D g M d cm sm K) {q t n : Nat} {f : Nat → Int64} {i : Int32} {x : Int64} (h : ja_at M.2.1 pc pc' .lastore 1) (hX : X[q]? = some (.inl (t, n, .inr (.inl f)))) (ht : ja_ty[t]? = some .long) (hin : vp_in i n) (k : K pc' loc st (X.set q (.inl (t, n, .inr (.inl (vp_updL f i.toNatClampNeg x))))) nc ns) : K pc loc (.long x :: .int i :: .ref q :: st) X nc ns := by
  obtain ⟨p, e, R, s, m, args, below, meth, c, Q, hE, hc1, hs1, rfl⟩ := hB
  exact aw_last hE h hX ht hin k
theorem kw_aald (hB : ja_B l D g M d cm sm K) {q t n : Nat} {ty : FieldType} {f : Nat → Option Nat} {i : Int32} (h : ja_at M.2.1 pc pc' .aaload 1) (hX : X[q]? = some (.inl (t, n, .inr (.inr (.inr (.inr f)))))) (ht : ja_ty[t]? = some ty) (hrt : ty.isReference = true) (hin : vp_in i n) (k : K pc' loc (va_rf (f i.toNatClampNeg) :: st) X nc ns) : K pc loc (.int i :: .ref q :: st) X nc ns := by
  obtain ⟨p, e, R, s, m, args, below, meth, c, Q, hE, hc1, hs1, rfl⟩ := hB
  exact aw_aald hE h hX ht hrt hin k
theorem kw_aast (hB : ja_B l D g M d cm sm K) {q t n v ci : Nat} {r : vw_C} {vs : List Value} {f : Nat → Option Nat} {i : Int32} (h : ja_at M.2.1 pc pc' .aastore 1) (hX : X[q]? = some (.inl (t, n, .inr (.inr (.inr (.inr f)))))) (ht : ja_ty[t]? = some (.object r.1)) (hV : X[v]? = some (.inr (ci, vs))) (hc : ja_cl[ci]? = some r) (hin : vp_in i n) (k : K pc' loc st (X.set q (.inl (t, n, .inr (.inr (.inr (.inr (va_up f i.toNatClampNeg (some v)))))))) nc ns) : K pc loc (.ref v :: .int i :: .ref q :: st) X nc ns := by
  obtain ⟨p, e, R, s, m, args, below, meth, c, Q, hE, hc1, hs1, rfl⟩ := hB
  exact aw_aast hE h hX ht hV hc hin k
theorem kw_alen (hB : ja_B l D g M d cm sm K) {q t : Nat} {x : vp_A} {ty : FieldType} {v : Int32} (h : ja_at M.2.1 pc pc' .arraylength 1) (hX : X[q]? = some (.inl (t, x))) (ht : ja_ty[t]? = some ty) (hv : Int32.ofNat x.1 = v) (k : K pc' loc (.int v :: st) X nc ns) : K pc loc (.ref q :: st) X nc ns := by
  obtain ⟨p, e, R, s, m, args, below, meth, c, Q, hE, hc1, hs1, rfl⟩ := hB
  exact aw_alen hE h hX ht hv k
theorem kw_newa (hB : ja_B l D g M d cm sm K) {atype : ArrayType} {t N' : Nat} {ty : FieldType} {n : Int32} {a0 : vp_A} (h : ja_at M.2.1 pc pc' (.newarray atype) 2) (hty : newarray.typeOf atype = ty) (ht : ja_ty[t]? = some ty) (hw : Cond.arrayClass ty ∈ ja_ws) (ha : ∀ cA : ClassId, vp_cell cA (ja_a g a0) = arrV cA N' (fun _ => defaultValue ty)) (hn : ¬ n < 0) (hN : n.toNatClampNeg = N') (hb : N' * componentBytes ty ≤ 536870912) (hc : nc + 1 ≤ cm) (hs : ns + N' ≤ sm)
    (k : K pc' loc (.ref X.length :: st) (X ++ [.inl (t, a0)]) (nc + 1) (ns + N')) : K pc loc (.int n :: st) X nc ns := by
  obtain ⟨p, e, R, s, m, args, below, meth, c, Q, hE, hc1, hs1, rfl⟩ := hB
  exact aw_newa hE h hty ht hw ha hn hN hb (Nat.le_trans hc hc1) (Nat.le_trans hs hs1) k
theorem kw_new (hB : ja_B l D g M d cm sm K) {ci idx N : Nat} {C : String} {T : u_T} {fs : List Value} (h : ja_at M.2.1 pc pc' (.new idx) 3) (hcl : ja_cl[ci]? = some (C, T, N)) (hin : ∀ w ∈ u_ws C T N, w ∈ ja_ws) (ty : Nat → FieldType) (hty : ∀ k, k < N → parseFieldDescriptor (T k).2.2.1 = some (ty k)) (hw1 : Cond.classLink M.1.cls idx C ∈ ja_ws) (hw2 : Cond.instantiable C N ∈ ja_ws) (hw3 : Cond.initialized C ∈ ja_ws) (hfs : ∀ j, j < N → defaultValue (ty j) = vp_V (fs.map (ja_v g)) j) (hc : nc + 1 ≤ cm) (hs : ns + N ≤ sm)
    (k : K pc' loc (.ref X.length :: st) (X ++ [.inr (ci, fs)]) (nc + 1) (ns + N)) : K pc loc st X nc ns := by
  obtain ⟨p, e, R, s, m, args, below, meth, c, Q, hE, hc1, hs1, rfl⟩ := hB
  exact aw_new hE h hcl hin ty hty hw1 hw2 hw3 hfs (Nat.le_trans hc hc1) (Nat.le_trans hs hs1) k
theorem kw_newq (hB : ja_B l D g M d cm sm K) {t idx N' : Nat} {C : String} {n : Int32} (h : ja_at M.2.1 pc pc' (.anewarray idx) 3) (ht : ja_ty[t]? = some (.object C)) (hw1 : Cond.classLink M.1.cls idx C ∈ ja_ws) (hw2 : C ∈ ja_ao) (hn : ¬ n < 0) (hN : n.toNatClampNeg = N') (hb : N' * 4 ≤ 536870912) (hc : nc + 1 ≤ cm) (hs : ns + N' ≤ sm)
    (k : K pc' loc (.ref X.length :: st) (X ++ [.inl (t, N', .inr (.inr (.inr (.inr (fun _ => none)))))]) (nc + 1) (ns + N')) : K pc loc (.int n :: st) X nc ns := by
  obtain ⟨p, e, R, s, m, args, below, meth, c, Q, hE, hc1, hs1, rfl⟩ := hB
  exact aw_newq hE h ht hw1 hw2 hn hN hb (Nat.le_trans hc hc1) (Nat.le_trans hs hs1) k
theorem kw_iret {Qp : Option Value → ja_H → Prop} {n mc ms : Nat} (hF : ja_E l D g M n mc ms Qp K) {v : Int32} (hr : M.2.2.2 = some .int) (h : ja_at M.2.1 pc pc' .ireturn 1) (hq : Qp (some (.int v)) X) (hl : X.length = n) : K pc loc [.int v] X mc ms := by
  obtain ⟨p, e, R, s, m, args, below, meth, c, d, hE, rfl⟩ := hF
  exact aw_iret hE hr h hq hl
theorem kw_zret {Qp : Option Value → ja_H → Prop} {n mc ms : Nat} (hF : ja_E l D g M n mc ms Qp K) {v : Int32} {ty : FieldType} (hr : M.2.2.2 = some ty) (hn : narrow ty (.int v) = .int v) (h : ja_at M.2.1 pc pc' .ireturn 1) (hq : Qp (some (.int v)) X) (hl : X.length = n) : K pc loc [.int v] X mc ms := by
  obtain ⟨p, e, R, s, m, args, below, meth, c, d, hE, rfl⟩ := hF
  exact aw_zret hE hr hn h hq hl
theorem kw_lret {Qp : Option Value → ja_H → Prop} {n mc ms : Nat} (hF : ja_E l D g M n mc ms Qp K) {v : Int64} (hr : M.2.2.2 = some .long) (h : ja_at M.2.1 pc pc' .lreturn 1) (hq : Qp (some (.long v)) X) (hl : X.length = n) : K pc loc [.long v] X mc ms := by
  obtain ⟨p, e, R, s, m, args, below, meth, c, d, hE, rfl⟩ := hF
  exact aw_lret hE hr h hq hl
theorem kw_vret {Qp : Option Value → ja_H → Prop} {n mc ms : Nat} (hF : ja_E l D g M n mc ms Qp K) (hr : M.2.2.2 = none) (h : ja_at M.2.1 pc pc' .return_ 1) (hq : Qp (none) X) (hl : X.length = n) : K pc loc [] X mc ms := by
  obtain ⟨p, e, R, s, m, args, below, meth, c, d, hE, rfl⟩ := hF
  exact aw_vret hE hr h hq hl
theorem kw_aret {Qp : Option Value → ja_H → Prop} {n mc ms : Nat} (hF : ja_E l D g M n mc ms Qp K) {v : Nat} {C : String} (hr : M.2.2.2 = some (.object C)) (h : ja_at M.2.1 pc pc' .areturn 1) (hq : Qp (some (.ref v)) X) (hl : X.length = n) : K pc loc [.ref v] X mc ms := by
  obtain ⟨p, e, R, s, m, args, below, meth, c, d, hE, rfl⟩ := hF
  exact aw_aret hE hr h hq hl
theorem kw_callS (hB : ja_B l D g M d cm sm K) {M' : ja_M} {idx na d' mc ms : Nat} {As : List Value} {Qp : Option Value → ja_H → Prop} (h : ja_at M.2.1 pc pc' (.invokestatic idx) 3) (hc : ja_site M.1.cls idx M' na) (hst : Cond.static M'.1 ∈ ja_ws) (hM : AMet l D g d' mc ms M' As X Qp) (hn : As.length = na) (hd' : d' + 1 ≤ d) (hcat : (st.map fun v => v.category).sum ≤ 8) (hcell : nc + mc ≤ cm) (hslot : ns + ms ≤ sm)
    (k : ∀ (r : Option Value) (X' : ja_H), Qp r X' → X'.length = X.length + mc → K pc' loc (r.toList ++ st) X' (nc + mc) (ns + ms)) : K pc loc (As.reverse ++ st) X nc ns := by
  obtain ⟨p, e, R, s, m, args, below, meth, c, Q, hE, hc1, hs1, rfl⟩ := hB
  exact aw_callS hE h hc hst hM hn hd' hcat (Nat.le_trans hcell hc1) (Nat.le_trans hslot hs1) k
theorem kw_callI (hB : ja_B l D g M d cm sm K) {M' : ja_M} {idx na d' mc ms q : Nat} {As : List Value} {Qp : Option Value → ja_H → Prop} (h : ja_at M.2.1 pc pc' (.invokespecial idx) 3) (hc : ja_site M.1.cls idx M' na) (hst : Cond.instanceMethod M'.1 ∈ ja_ws) (hin : M'.1.name = "<init>") (hret : M'.2.2.2 = none) (hM : AMet l D g d' mc ms M' (.ref q :: As) X Qp) (hn : As.length = na) (hd' : d' + 1 ≤ d) (hcat : (st.map fun v => v.category).sum ≤ 8) (hcell : nc + mc ≤ cm) (hslot : ns + ms ≤ sm)
    (k : ∀ (r : Option Value) (X' : ja_H), Qp r X' → X'.length = X.length + mc → K pc' loc (r.toList ++ st) X' (nc + mc) (ns + ms)) : K pc loc (As.reverse ++ .ref q :: st) X nc ns := by
  obtain ⟨p, e, R, s, m, args, below, meth, c, Q, hE, hc1, hs1, rfl⟩ := hB
  exact aw_callI hE h hc hst hin hret hM hn hd' hcat (Nat.le_trans hcell hc1) (Nat.le_trans hslot hs1) k
theorem kw_callV (hB : ja_B l D g M d cm sm K) {M' : ja_M} {idx na d' mc ms q ci : Nat} {r0 : vw_C} {fs As : List Value} {Qp : Option Value → ja_H → Prop} (h : ja_at M.2.1 pc pc' (.invokevirtual idx) 3) (hc : ja_site M.1.cls idx M' na) (hst : Cond.instanceMethod M'.1 ∈ ja_ws) (hsel : Cond.selects M'.1.cls M'.1 M'.1 ∈ ja_ws) (hX : X[q]? = some (.inr (ci, fs))) (hci : ja_cl[ci]? = some r0) (hcn : r0.1 = M'.1.cls) (hM : AMet l D g d' mc ms M' (.ref q :: As) X Qp) (hn : As.length = na) (hd' : d' + 1 ≤ d) (hcat : (st.map fun v => v.category).sum ≤ 8) (hcell : nc + mc ≤ cm) (hslot : ns + ms ≤ sm)
    (k : ∀ (r : Option Value) (X' : ja_H), Qp r X' → X'.length = X.length + mc → K pc' loc (r.toList ++ st) X' (nc + mc) (ns + ms)) : K pc loc (As.reverse ++ .ref q :: st) X nc ns := by
  obtain ⟨p, e, R, s, m, args, below, meth, c, Q, hE, hc1, hs1, rfl⟩ := hB
  exact aw_callV hE h hc hst hsel hX hci hcn hM hn hd' hcat (Nat.le_trans hcell hc1) (Nat.le_trans hslot hs1) k
theorem kw_objInit (hB : ja_B l D g M d cm sm K) {idx q : Nat} (h : ja_at M.2.1 pc pc' (.invokespecial idx) 3) (h1 : Cond.methodLink M.1.cls idx objectInit ∈ ja_ws) (h2 : Cond.instanceMethod objectInit ∈ ja_ws) (h3 : Cond.code objectInit ⟨#[0xb1]⟩ 1 none ∈ ja_ws) (hd' : 1 ≤ d) (hcat : (st.map fun v => v.category).sum ≤ 8) (k : K pc' loc st X nc ns) : K pc loc (.ref q :: st) X nc ns := by
  obtain ⟨p, e, R, s, m, args, below, meth, c, Q, hE, hc1, hs1, rfl⟩ := hB
  exact aw_objInit hE h h1 h2 h3 hd' hcat k
theorem jx_1 (a : Nat) : nI a + Int32.ofInt 1 = nI (a + 1) := nI_1 a
theorem jx_in {i n : Nat} (h : i < n) (hn : n < 2 ^ 31) : vp_in (nI i) n := vp_in_nI h hn
theorem kn_iadd (hB : ja_B l D g M d cm sm K) {a b : Nat} (h : ja_at M.2.1 pc pc' .iadd 1) (k : K pc' loc (.int (nI (a + b)) :: st) X nc ns) : K pc loc (.int (nI b) :: .int (nI a) :: st) X nc ns := kw_iadd hB h (by rw [nI_add a b]; exact k)
theorem kn_imul (hB : ja_B l D g M d cm sm K) {a b : Nat} (h : ja_at M.2.1 pc pc' .imul 1) (k : K pc' loc (.int (nI (a * b)) :: st) X nc ns) : K pc loc (.int (nI b) :: .int (nI a) :: st) X nc ns := kw_imul hB h (by rw [pk_mul a b]; exact k)
theorem kn_isub (hB : ja_B l D g M d cm sm K) {a b : Nat} (h : ja_at M.2.1 pc pc' .isub 1) (hab : b ≤ a) (k : K pc' loc (.int (nI (a - b)) :: st) X nc ns) : K pc loc (.int (nI b) :: .int (nI a) :: st) X nc ns := kw_isub hB h (by rw [pk_sub hab]; exact k)
theorem kn_idiv (hB : ja_B l D g M d cm sm K) {a b : Nat} (h : ja_at M.2.1 pc pc' .idiv 1) (ha : a < 2 ^ 31) (h0 : 0 < b) (hb : b < 2 ^ 31) (k : K pc' loc (.int (nI (a / b)) :: st) X nc ns) : K pc loc (.int (nI b) :: .int (nI a) :: st) X nc ns := kw_idiv hB h (nI_ne0 h0 hb) (by rw [pk_div ha h0 hb]; exact k)
theorem kn_irem (hB : ja_B l D g M d cm sm K) {a b : Nat} (h : ja_at M.2.1 pc pc' .irem 1) (ha : a < 2 ^ 31) (h0 : 0 < b) (hb : b < 2 ^ 31) (k : K pc' loc (.int (nI (a % b)) :: st) X nc ns) : K pc loc (.int (nI b) :: .int (nI a) :: st) X nc ns := kw_irem hB h (nI_ne0 h0 hb) (by rw [pk_rem ha h0 hb]; exact k)
theorem kn_iinc (hB : ja_B l D g M d cm sm K) {i a : Nat} {loc' : List Value} (h : ja_at M.2.1 pc pc' (.iinc i 1) 3) (hx : loc[i]? = some (.int (nI a))) (hn : i < M.2.2.1) (hl' : ja_s1 loc i (.int (nI (a + 1))) = loc') (k : K pc' loc' st X nc ns) : K pc loc st X nc ns := kw_iinc hB h hx (jx_1 a) hn hl' k
theorem kn_iald (hB : ja_B l D g M d cm sm K) {q t n a : Nat} {f : Nat → Int32} (h : ja_at M.2.1 pc pc' .iaload 1) (hX : X[q]? = some (.inl (t, n, .inl f))) (ht : ja_ty[t]? = some .int) (ha : a < n) (hn : n < 2 ^ 31) (k : K pc' loc (.int (f a) :: st) X nc ns) : K pc loc (.int (nI a) :: .ref q :: st) X nc ns := kw_iald hB h hX ht (vp_in_nI ha hn) (by rw [nI_clamp (Nat.lt_trans ha hn)]; exact k)
theorem kn_zald (hB : ja_B l D g M d cm sm K) {q t n a : Nat} {f : Nat → Int32} (h : ja_at M.2.1 pc pc' .baload 1) (hX : X[q]? = some (.inl (t, n, .inl f))) (ht : ja_ty[t]? = some .boolean) (ha : a < n) (hn : n < 2 ^ 31) (k : K pc' loc (.int (f a) :: st) X nc ns) : K pc loc (.int (nI a) :: .ref q :: st) X nc ns := kw_zald hB h hX ht (vp_in_nI ha hn) (by rw [nI_clamp (Nat.lt_trans ha hn)]; exact k)
theorem kn_bald (hB : ja_B l D g M d cm sm K) {q t n a : Nat} {f : Nat → Int32} (h : ja_at M.2.1 pc pc' .baload 1) (hX : X[q]? = some (.inl (t, n, .inl f))) (ht : ja_ty[t]? = some .byte) (ha : a < n) (hn : n < 2 ^ 31) (k : K pc' loc (.int (f a) :: st) X nc ns) : K pc loc (.int (nI a) :: .ref q :: st) X nc ns := kw_bald hB h hX ht (vp_in_nI ha hn) (by rw [nI_clamp (Nat.lt_trans ha hn)]; exact k)
theorem kn_lald (hB : ja_B l D g M d cm sm K) {q t n a : Nat} {f : Nat → Int64} (h : ja_at M.2.1 pc pc' .laload 1) (hX : X[q]? = some (.inl (t, n, .inr (.inl f)))) (ht : ja_ty[t]? = some .long) (ha : a < n) (hn : n < 2 ^ 31) (k : K pc' loc (.long (f a) :: st) X nc ns) : K pc loc (.int (nI a) :: .ref q :: st) X nc ns := kw_lald hB h hX ht (vp_in_nI ha hn) (by rw [nI_clamp (Nat.lt_trans ha hn)]; exact k)
theorem kn_aald (hB : ja_B l D g M d cm sm K) {q t n a : Nat} {ty : FieldType} {f : Nat → Option Nat} (h : ja_at M.2.1 pc pc' .aaload 1) (hX : X[q]? = some (.inl (t, n, .inr (.inr (.inr (.inr f)))))) (ht : ja_ty[t]? = some ty) (hr : ty.isReference = true) (ha : a < n) (hn : n < 2 ^ 31) {v : Nat} (hv : f a = some v) (k : K pc' loc (.ref v :: st) X nc ns) : K pc loc (.int (nI a) :: .ref q :: st) X nc ns := kw_aald hB h hX ht hr (vp_in_nI ha hn) (by rw [nI_clamp (Nat.lt_trans ha hn), hv]; exact k)
theorem kn_iast (hB : ja_B l D g M d cm sm K) {q t n a : Nat} {f : Nat → Int32} {x : Int32} (h : ja_at M.2.1 pc pc' .iastore 1) (hX : X[q]? = some (.inl (t, n, .inl f))) (ht : ja_ty[t]? = some .int) (ha : a < n) (hn : n < 2 ^ 31) (k : K pc' loc st (X.set q (.inl (t, n, .inl (upd f a x)))) nc ns) : K pc loc (.int x :: .int (nI a) :: .ref q :: st) X nc ns := kw_iast hB h hX ht (vp_in_nI ha hn) (by rw [nI_clamp (Nat.lt_trans ha hn)]; exact k)
theorem kn_zast (hB : ja_B l D g M d cm sm K) {q t n a : Nat} {f : Nat → Int32} {x : Int32} (h : ja_at M.2.1 pc pc' .bastore 1) (hX : X[q]? = some (.inl (t, n, .inl f))) (ht : ja_ty[t]? = some .boolean) (ha : a < n) (hn : n < 2 ^ 31) (k : K pc' loc st (X.set q (.inl (t, n, .inl (upd f a (vp_nar .boolean x))))) nc ns) : K pc loc (.int x :: .int (nI a) :: .ref q :: st) X nc ns := kw_zast hB h hX ht (vp_in_nI ha hn) (by rw [nI_clamp (Nat.lt_trans ha hn)]; exact k)
theorem kn_bast (hB : ja_B l D g M d cm sm K) {q t n a : Nat} {f : Nat → Int32} {x : Int32} (h : ja_at M.2.1 pc pc' .bastore 1) (hX : X[q]? = some (.inl (t, n, .inl f))) (ht : ja_ty[t]? = some .byte) (ha : a < n) (hn : n < 2 ^ 31) (k : K pc' loc st (X.set q (.inl (t, n, .inl (upd f a (vp_nar .byte x))))) nc ns) : K pc loc (.int x :: .int (nI a) :: .ref q :: st) X nc ns := kw_bast hB h hX ht (vp_in_nI ha hn) (by rw [nI_clamp (Nat.lt_trans ha hn)]; exact k)
theorem kn_last (hB : ja_B l D g M d cm sm K) {q t n a : Nat} {f : Nat → Int64} {x : Int64} (h : ja_at M.2.1 pc pc' .lastore 1) (hX : X[q]? = some (.inl (t, n, .inr (.inl f)))) (ht : ja_ty[t]? = some .long) (ha : a < n) (hn : n < 2 ^ 31) (k : K pc' loc st (X.set q (.inl (t, n, .inr (.inl (vp_updL f a x))))) nc ns) : K pc loc (.long x :: .int (nI a) :: .ref q :: st) X nc ns := kw_last hB h hX ht (vp_in_nI ha hn) (by rw [nI_clamp (Nat.lt_trans ha hn)]; exact k)
theorem kn_icmp_lt (hB : ja_B l D g M d cm sm K) {a b : Nat} {off : Int} {tgt : Nat} (h : ja_to M.2.1 pc pc' tgt (.if_icmp .lt off) off) (ha : a < 2 ^ 31) (hb : b < 2 ^ 31) (kt : a < b → K tgt loc st X nc ns) (kf : b ≤ a → K pc' loc st X nc ns) : K pc loc (.int (nI b) :: .int (nI a) :: st) X nc ns := kw_icmp_lt hB h (fun q => kt ((nI_ltI ha hb).mp q)) (fun q => kf (by have := mt (nI_ltI ha hb).mpr q; omega))
theorem kn_icmp_ge (hB : ja_B l D g M d cm sm K) {a b : Nat} {off : Int} {tgt : Nat} (h : ja_to M.2.1 pc pc' tgt (.if_icmp .ge off) off) (ha : a < 2 ^ 31) (hb : b < 2 ^ 31) (kt : b ≤ a → K tgt loc st X nc ns) (kf : a < b → K pc' loc st X nc ns) : K pc loc (.int (nI b) :: .int (nI a) :: st) X nc ns := kw_icmp_ge hB h (fun q => kt ((nI_leI hb ha).mp q)) (fun q => kf (by have := mt (nI_leI hb ha).mpr q; omega))
theorem kn_icmp_gt (hB : ja_B l D g M d cm sm K) {a b : Nat} {off : Int} {tgt : Nat} (h : ja_to M.2.1 pc pc' tgt (.if_icmp .gt off) off) (ha : a < 2 ^ 31) (hb : b < 2 ^ 31) (kt : b < a → K tgt loc st X nc ns) (kf : a ≤ b → K pc' loc st X nc ns) : K pc loc (.int (nI b) :: .int (nI a) :: st) X nc ns := kw_icmp_gt hB h (fun q => kt ((nI_ltI hb ha).mp q)) (fun q => kf (by have := mt (nI_ltI hb ha).mpr q; omega))
theorem kn_icmp_le (hB : ja_B l D g M d cm sm K) {a b : Nat} {off : Int} {tgt : Nat} (h : ja_to M.2.1 pc pc' tgt (.if_icmp .le off) off) (ha : a < 2 ^ 31) (hb : b < 2 ^ 31) (kt : a ≤ b → K tgt loc st X nc ns) (kf : b < a → K pc' loc st X nc ns) : K pc loc (.int (nI b) :: .int (nI a) :: st) X nc ns := kw_icmp_le hB h (fun q => kt ((nI_leI ha hb).mp q)) (fun q => kf (by have := mt (nI_leI ha hb).mpr q; omega))
theorem kn_icmp_eq (hB : ja_B l D g M d cm sm K) {a b : Nat} {off : Int} {tgt : Nat} (h : ja_to M.2.1 pc pc' tgt (.if_icmp .eq off) off) (ha : a < 2 ^ 31) (hb : b < 2 ^ 31) (kt : a = b → K tgt loc st X nc ns) (kf : a ≠ b → K pc' loc st X nc ns) : K pc loc (.int (nI b) :: .int (nI a) :: st) X nc ns := kw_icmp_eq hB h (fun q => kt ((nI_eq ha hb).mp q)) (fun q => kf (fun z => q ((nI_eq ha hb).mpr z)))
theorem kn_icmp_ne (hB : ja_B l D g M d cm sm K) {a b : Nat} {off : Int} {tgt : Nat} (h : ja_to M.2.1 pc pc' tgt (.if_icmp .ne off) off) (ha : a < 2 ^ 31) (hb : b < 2 ^ 31) (kt : a ≠ b → K tgt loc st X nc ns) (kf : a = b → K pc' loc st X nc ns) : K pc loc (.int (nI b) :: .int (nI a) :: st) X nc ns := kw_icmp_ne hB h (fun q => kt (fun z => q ((nI_eq ha hb).mpr z))) (fun q => kf ((nI_eq ha hb).mp q))
theorem kn_if_eq (hB : ja_B l D g M d cm sm K) {a : Nat} {off : Int} {tgt : Nat} (h : ja_to M.2.1 pc pc' tgt (.ifCond .eq off) off) (ha : a < 2 ^ 31) (kt : a = 0 → K tgt loc st X nc ns) (kf : a ≠ 0 → K pc' loc st X nc ns) : K pc loc (.int (nI a) :: st) X nc ns := kw_if_eq hB h (fun q => kt ((nI_eq (b := 0) ha (by decide)).mp q)) (fun q => kf (fun z => q ((nI_eq (b := 0) ha (by decide)).mpr z)))
theorem kn_if_ne (hB : ja_B l D g M d cm sm K) {a : Nat} {off : Int} {tgt : Nat} (h : ja_to M.2.1 pc pc' tgt (.ifCond .ne off) off) (ha : a < 2 ^ 31) (kt : a ≠ 0 → K tgt loc st X nc ns) (kf : a = 0 → K pc' loc st X nc ns) : K pc loc (.int (nI a) :: st) X nc ns := kw_if_ne hB h (fun q => kt (fun z => q ((nI_eq (b := 0) ha (by decide)).mpr z))) (fun q => kf ((nI_eq (b := 0) ha (by decide)).mp q))
end JK
theorem jw_cls (ci : Nat) {C : String} {T : u_T} {N : Nat} (ty0 : Nat → FieldType) (h1 : ja_cl[ci]? = some (C, T, N)) (h2 : ∀ k, k < N → parseFieldDescriptor (T k).2.2.1 = some (ty0 k)) (h3 : ∀ a, a < N → ∀ b, b < N → a ≠ b → (T a).2.1 ≠ (T b).2.1) : ja_cls ci := ⟨C, T, N, ty0, h1, h2, h3⟩
theorem jc_L : ja_cls 0 := jw_cls 0 jt_L rfl jo_L jq_L
theorem jw_L_0 : ja_sto 0 0 false "TaintScanner$Language" (.int) := ⟨_, rfl, rfl, rfl, by decide +kernel⟩
theorem jw_L_1 : ja_sto 0 1 false "TaintScanner$Language" (.int) := ⟨_, rfl, rfl, rfl, by decide +kernel⟩
theorem jw_L_2 : ja_sto 0 2 true "TaintScanner$Language" (.array .int) := ⟨_, rfl, rfl, rfl, by decide +kernel⟩
theorem jc_R : ja_cls 1 := jw_cls 1 jt_R rfl jo_R jq_R
theorem jw_R_0 : ja_sto 1 0 true "TaintScanner$Program" (.array .int) := ⟨_, rfl, rfl, rfl, by decide +kernel⟩
theorem jw_R_1 : ja_sto 1 1 true "TaintScanner$Program" (.array .int) := ⟨_, rfl, rfl, rfl, by decide +kernel⟩
theorem jw_R_2 : ja_sto 1 2 true "TaintScanner$Program" (.array .int) := ⟨_, rfl, rfl, rfl, by decide +kernel⟩
theorem jw_R_3 : ja_sto 1 3 true "TaintScanner$Program" (.array .int) := ⟨_, rfl, rfl, rfl, by decide +kernel⟩
theorem jw_R_4 : ja_sto 1 4 true "TaintScanner$Program" (.array .int) := ⟨_, rfl, rfl, rfl, by decide +kernel⟩
theorem jw_R_5 : ja_sto 1 5 true "TaintScanner$Program" (.array .int) := ⟨_, rfl, rfl, rfl, by decide +kernel⟩
theorem jw_R_6 : ja_sto 1 6 false "TaintScanner$Program" (.int) := ⟨_, rfl, rfl, rfl, by decide +kernel⟩
theorem jw_R_7 : ja_sto 1 7 false "TaintScanner$Program" (.int) := ⟨_, rfl, rfl, rfl, by decide +kernel⟩
theorem jw_R_8 : ja_sto 1 8 false "TaintScanner$Program" (.int) := ⟨_, rfl, rfl, rfl, by decide +kernel⟩
theorem jw_R_9 : ja_sto 1 9 true "TaintScanner$Program" (.array .int) := ⟨_, rfl, rfl, rfl, by decide +kernel⟩
theorem jw_R_10 : ja_sto 1 10 true "TaintScanner$Program" (.array .int) := ⟨_, rfl, rfl, rfl, by decide +kernel⟩
theorem jc_B : ja_cls 2 := jw_cls 2 jt_B rfl jo_B jq_B
theorem jw_B_0 : ja_sto 2 0 false "TaintScanner$Automaton" (.int) := ⟨_, rfl, rfl, rfl, by decide +kernel⟩
theorem jw_B_1 : ja_sto 2 1 true "TaintScanner$Automaton" (.array .int) := ⟨_, rfl, rfl, rfl, by decide +kernel⟩
theorem jw_B_2 : ja_sto 2 2 true "TaintScanner$Automaton" (.array .boolean) := ⟨_, rfl, rfl, rfl, by decide +kernel⟩
theorem jw_B_3 : ja_sto 2 3 true "TaintScanner$Automaton" (.array .int) := ⟨_, rfl, rfl, rfl, by decide +kernel⟩
theorem jw_B_4 : ja_sto 2 4 true "TaintScanner$Automaton" (.array .int) := ⟨_, rfl, rfl, rfl, by decide +kernel⟩
theorem jw_B_5 : ja_sto 2 5 true "TaintScanner$Automaton" (.array .int) := ⟨_, rfl, rfl, rfl, by decide +kernel⟩
theorem jw_B_6 : ja_sto 2 6 true "TaintScanner$Automaton" (.array .int) := ⟨_, rfl, rfl, rfl, by decide +kernel⟩
theorem jw_B_7 : ja_sto 2 7 true "TaintScanner$Automaton" (.array .int) := ⟨_, rfl, rfl, rfl, by decide +kernel⟩
theorem jw_B_8 : ja_sto 2 8 true "TaintScanner$Automaton" (.array .long) := ⟨_, rfl, rfl, rfl, by decide +kernel⟩
theorem jc_P : ja_cls 3 := jw_cls 3 jt_P rfl jo_P jq_P
theorem jw_P_0 : ja_sto 3 0 true "TaintScanner$Pair" (.object "TaintScanner$Language") := ⟨_, rfl, rfl, rfl, by decide +kernel⟩
theorem jw_P_1 : ja_sto 3 1 true "TaintScanner$Pair" (.object "TaintScanner$Language") := ⟨_, rfl, rfl, rfl, by decide +kernel⟩
theorem jw_P_2 : ja_sto 3 2 false "TaintScanner$Pair" (.int) := ⟨_, rfl, rfl, rfl, by decide +kernel⟩
theorem jc_Q : ja_cls 4 := jw_cls 4 jt_Q rfl jo_Q jq_Q
theorem jw_Q_0 : ja_sto 4 0 true "TaintScanner$Sequence" (.object "TaintScanner$Language") := ⟨_, rfl, rfl, rfl, by decide +kernel⟩
theorem jw_Q_1 : ja_sto 4 1 true "TaintScanner$Sequence" (.object "TaintScanner$Language") := ⟨_, rfl, rfl, rfl, by decide +kernel⟩
theorem jc_G : ja_cls 5 := jw_cls 5 jt_G rfl jo_G jq_G
theorem jw_G_0 : ja_sto 5 0 true "TaintScanner$Guarded" (.object "TaintScanner$Language") := ⟨_, rfl, rfl, rfl, by decide +kernel⟩
theorem jc_I : ja_cls 6 := jw_cls 6 jt_I rfl jo_I jq_I
theorem jw_I_0 : ja_sto 6 0 true "TaintScanner$Image" (.object "TaintScanner$Language") := ⟨_, rfl, rfl, rfl, by decide +kernel⟩
theorem jw_I_1 : ja_sto 6 1 true "TaintScanner$Image" (.array .int) := ⟨_, rfl, rfl, rfl, by decide +kernel⟩
theorem jw_I_2 : ja_sto 6 2 true "TaintScanner$Image" (.array .int) := ⟨_, rfl, rfl, rfl, by decide +kernel⟩
theorem jc_A : ja_cls 7 := jw_cls 7 jt_A rfl jo_A jq_A
theorem jw_A_0 : ja_sto 7 0 true "TaintScanner$Analysis" (.array (.object "TaintScanner$Language")) := ⟨_, rfl, rfl, rfl, by decide +kernel⟩
theorem jw_A_1 : ja_sto 7 1 true "TaintScanner$Analysis" (.array .int) := ⟨_, rfl, rfl, rfl, by decide +kernel⟩
theorem jw_A_2 : ja_sto 7 2 false "TaintScanner$Analysis" (.boolean) := ⟨_, rfl, rfl, rfl, by decide +kernel⟩
theorem jw_A_3 : ja_sto 7 3 false "TaintScanner$Analysis" (.int) := ⟨_, rfl, rfl, rfl, by decide +kernel⟩
theorem jw_A_4 : ja_sto 7 4 true "TaintScanner$Analysis" (.array (.array .int)) := ⟨_, rfl, rfl, rfl, by decide +kernel⟩
theorem jw_A_5 : ja_sto 7 5 true "TaintScanner$Analysis" (.array .int) := ⟨_, rfl, rfl, rfl, by decide +kernel⟩
theorem jw_A_6 : ja_sto 7 6 true "TaintScanner$Analysis" (.array (.object "TaintScanner$Language")) := ⟨_, rfl, rfl, rfl, by decide +kernel⟩
theorem jw_A_7 : ja_sto 7 7 true "TaintScanner$Analysis" (.array (.object "TaintScanner$Language")) := ⟨_, rfl, rfl, rfl, by decide +kernel⟩
theorem jw_A_8 : ja_sto 7 8 true "TaintScanner$Analysis" (.array (.object "TaintScanner$Language")) := ⟨_, rfl, rfl, rfl, by decide +kernel⟩
theorem jw_A_9 : ja_sto 7 9 true "TaintScanner$Analysis" (.object "TaintScanner$Language") := ⟨_, rfl, rfl, rfl, by decide +kernel⟩
theorem jw_A_10 : ja_sto 7 10 true "TaintScanner$Analysis" (.object "TaintScanner$Language") := ⟨_, rfl, rfl, rfl, by decide +kernel⟩
theorem jw_A_11 : ja_sto 7 11 true "TaintScanner$Analysis" (.object "TaintScanner$Language") := ⟨_, rfl, rfl, rfl, by decide +kernel⟩
theorem jw_A_12 : ja_sto 7 12 true "TaintScanner$Analysis" (.object "TaintScanner$Automaton") := ⟨_, rfl, rfl, rfl, by decide +kernel⟩
theorem jw_A_13 : ja_sto 7 13 true "TaintScanner$Analysis" (.object "TaintScanner$Pair") := ⟨_, rfl, rfl, rfl, by decide +kernel⟩
theorem jw_A_14 : ja_sto 7 14 true "TaintScanner$Analysis" (.object "TaintScanner$Sequence") := ⟨_, rfl, rfl, rfl, by decide +kernel⟩
theorem jw_A_15 : ja_sto 7 15 true "TaintScanner$Analysis" (.object "TaintScanner$Guarded") := ⟨_, rfl, rfl, rfl, by decide +kernel⟩
theorem jw_A_16 : ja_sto 7 16 true "TaintScanner$Analysis" (.object "TaintScanner$Image") := ⟨_, rfl, rfl, rfl, by decide +kernel⟩
theorem jc_N : ja_cls 8 := jw_cls 8 jt_N rfl jo_N jq_N
theorem jw_N_0 : ja_sto 8 0 true "TaintScanner$Interpreter" (.array .int) := ⟨_, rfl, rfl, rfl, by decide +kernel⟩
theorem jw_N_1 : ja_sto 8 1 true "TaintScanner$Interpreter" (.array .long) := ⟨_, rfl, rfl, rfl, by decide +kernel⟩
theorem jw_N_2 : ja_sto 8 2 true "TaintScanner$Interpreter" (.array .int) := ⟨_, rfl, rfl, rfl, by decide +kernel⟩
theorem jw_N_3 : ja_sto 8 3 false "TaintScanner$Interpreter" (.int) := ⟨_, rfl, rfl, rfl, by decide +kernel⟩
theorem jw_N_4 : ja_sto 8 4 false "TaintScanner$Interpreter" (.int) := ⟨_, rfl, rfl, rfl, by decide +kernel⟩
theorem jw_N_5 : ja_sto 8 5 true "TaintScanner$Interpreter" (.array .long) := ⟨_, rfl, rfl, rfl, by decide +kernel⟩
theorem jc_T : ja_cls 9 := jw_cls 9 jt_T rfl jo_T jq_T
theorem jw_T_0 : ja_sto 9 0 true "TaintScanner" (.object "TaintScanner$Program") := ⟨_, rfl, rfl, rfl, by decide +kernel⟩
theorem jw_T_1 : ja_sto 9 1 true "TaintScanner" (.object "TaintScanner$Analysis") := ⟨_, rfl, rfl, rfl, by decide +kernel⟩
theorem jw_T_2 : ja_sto 9 2 true "TaintScanner" (.object "TaintScanner$Interpreter") := ⟨_, rfl, rfl, rfl, by decide +kernel⟩
theorem jc_M : ja_cls 10 := jw_cls 10 jt_M rfl jo_M jq_M
theorem jw_M_0 : ja_sto 10 0 false "TaintScannerModel" (.int) := ⟨_, rfl, rfl, rfl, by decide +kernel⟩
theorem jw_M_1 : ja_sto 10 1 true "TaintScannerModel" (.array .int) := ⟨_, rfl, rfl, rfl, by decide +kernel⟩
theorem jw_M_2 : ja_sto 10 2 true "TaintScannerModel" (.array .int) := ⟨_, rfl, rfl, rfl, by decide +kernel⟩
theorem jw_M_3 : ja_sto 10 3 true "TaintScannerModel" (.array .int) := ⟨_, rfl, rfl, rfl, by decide +kernel⟩
theorem jw_M_4 : ja_sto 10 4 true "TaintScannerModel" (.array .int) := ⟨_, rfl, rfl, rfl, by decide +kernel⟩
theorem jw_M_5 : ja_sto 10 5 true "TaintScannerModel" (.array .int) := ⟨_, rfl, rfl, rfl, by decide +kernel⟩
theorem jw_M_6 : ja_sto 10 6 true "TaintScannerModel" (.array .int) := ⟨_, rfl, rfl, rfl, by decide +kernel⟩
theorem jw_M_7 : ja_sto 10 7 true "TaintScannerModel" (.array .int) := ⟨_, rfl, rfl, rfl, by decide +kernel⟩
theorem jw_M_8 : ja_sto 10 8 true "TaintScannerModel" (.array .int) := ⟨_, rfl, rfl, rfl, by decide +kernel⟩
theorem jw_M_9 : ja_sto 10 9 true "TaintScannerModel" (.array .int) := ⟨_, rfl, rfl, rfl, by decide +kernel⟩
theorem jw_M_10 : ja_sto 10 10 false "TaintScannerModel" (.int) := ⟨_, rfl, rfl, rfl, by decide +kernel⟩
theorem jw_M_11 : ja_sto 10 11 false "TaintScannerModel" (.int) := ⟨_, rfl, rfl, rfl, by decide +kernel⟩
theorem jw_M_12 : ja_sto 10 12 true "TaintScannerModel" (.array .int) := ⟨_, rfl, rfl, rfl, by decide +kernel⟩
theorem jw_M_13 : ja_sto 10 13 true "TaintScannerModel" (.array .int) := ⟨_, rfl, rfl, rfl, by decide +kernel⟩
theorem jw_M_14 : ja_sto 10 14 true "TaintScannerModel" (.array .byte) := ⟨_, rfl, rfl, rfl, by decide +kernel⟩
theorem jw_M_15 : ja_sto 10 15 false "TaintScannerModel" (.boolean) := ⟨_, rfl, rfl, rfl, by decide +kernel⟩
theorem jw_M_16 : ja_sto 10 16 true "TaintScannerModel" (.array .int) := ⟨_, rfl, rfl, rfl, by decide +kernel⟩
theorem jw_M_17 : ja_sto 10 17 true "TaintScannerModel" (.array .int) := ⟨_, rfl, rfl, rfl, by decide +kernel⟩
theorem jw_M_18 : ja_sto 10 18 false "TaintScannerModel" (.int) := ⟨_, rfl, rfl, rfl, by decide +kernel⟩
theorem jw_M_19 : ja_sto 10 19 false "TaintScannerModel" (.int) := ⟨_, rfl, rfl, rfl, by decide +kernel⟩
theorem jw_M_20 : ja_sto 10 20 false "TaintScannerModel" (.int) := ⟨_, rfl, rfl, rfl, by decide +kernel⟩
theorem jw_M_21 : ja_sto 10 21 false "TaintScannerModel" (.int) := ⟨_, rfl, rfl, rfl, by decide +kernel⟩
theorem jw_M_22 : ja_sto 10 22 false "TaintScannerModel" (.int) := ⟨_, rfl, rfl, rfl, by decide +kernel⟩
theorem jw_M_23 : ja_sto 10 23 false "TaintScannerModel" (.boolean) := ⟨_, rfl, rfl, rfl, by decide +kernel⟩
theorem jw_M_24 : ja_sto 10 24 false "TaintScannerModel" (.int) := ⟨_, rfl, rfl, rfl, by decide +kernel⟩
theorem jw_M_25 : ja_sto 10 25 false "TaintScannerModel" (.int) := ⟨_, rfl, rfl, rfl, by decide +kernel⟩
theorem jw_M_26 : ja_sto 10 26 true "TaintScannerModel" (.array .int) := ⟨_, rfl, rfl, rfl, by decide +kernel⟩
theorem jw_M_27 : ja_sto 10 27 false "TaintScannerModel" (.int) := ⟨_, rfl, rfl, rfl, by decide +kernel⟩
theorem jw_M_28 : ja_sto 10 28 true "TaintScannerModel" (.array .int) := ⟨_, rfl, rfl, rfl, by decide +kernel⟩
theorem jw_M_29 : ja_sto 10 29 false "TaintScannerModel" (.int) := ⟨_, rfl, rfl, rfl, by decide +kernel⟩
theorem jw_M_30 : ja_sto 10 30 true "TaintScannerModel" (.array .int) := ⟨_, rfl, rfl, rfl, by decide +kernel⟩
theorem jw_M_31 : ja_sto 10 31 true "TaintScannerModel" (.array .int) := ⟨_, rfl, rfl, rfl, by decide +kernel⟩
theorem jw_M_32 : ja_sto 10 32 false "TaintScannerModel" (.int) := ⟨_, rfl, rfl, rfl, by decide +kernel⟩
theorem jw_M_33 : ja_sto 10 33 true "TaintScannerModel" (.array .int) := ⟨_, rfl, rfl, rfl, by decide +kernel⟩
theorem jw_M_34 : ja_sto 10 34 true "TaintScannerModel" (.array .int) := ⟨_, rfl, rfl, rfl, by decide +kernel⟩
theorem jw_M_35 : ja_sto 10 35 true "TaintScannerModel" (.array .int) := ⟨_, rfl, rfl, rfl, by decide +kernel⟩
theorem jw_M_36 : ja_sto 10 36 true "TaintScannerModel" (.array .int) := ⟨_, rfl, rfl, rfl, by decide +kernel⟩
theorem jw_M_37 : ja_sto 10 37 true "TaintScannerModel" (.array .long) := ⟨_, rfl, rfl, rfl, by decide +kernel⟩
theorem jw_M_38 : ja_sto 10 38 false "TaintScannerModel" (.int) := ⟨_, rfl, rfl, rfl, by decide +kernel⟩
theorem jw_M_39 : ja_sto 10 39 false "TaintScannerModel" (.int) := ⟨_, rfl, rfl, rfl, by decide +kernel⟩
theorem jw_M_40 : ja_sto 10 40 true "TaintScannerModel" (.array .long) := ⟨_, rfl, rfl, rfl, by decide +kernel⟩
theorem jw_M_41 : ja_sto 10 41 true "TaintScannerModel" (.array .int) := ⟨_, rfl, rfl, rfl, by decide +kernel⟩
