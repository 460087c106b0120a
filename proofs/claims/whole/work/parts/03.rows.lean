-- the judgement AW: the machine at a pc of a method, locals, stack and heap by places
abbrev ja_M : Type := MethodName × ByteArray × Nat × Option FieldType
def ja_z : ja_C := .inr (1000, [])
def ja_t (D : va_G) : List (ClassId × FieldType) := (List.range ja_ty.length).map (fun t => (D.1 (100 + t), ja_ty.getD t .int))
theorem ja_t_at (D : va_G) {t : Nat} {ty : FieldType} (h : ja_ty[t]? = some ty) : (ja_t D)[t]? = some (D.1 (100 + t), ty) := by
  have hl : t < ja_ty.length := (List.getElem?_eq_some_iff.mp h).1
  rw [ja_t, List.getElem?_map, List.getElem?_range hl, Option.map_some, List.getD_eq_getElem?_getD, h]
  rfl
def ja_at (code : ByteArray) (pc pc' : Nat) (i : Instr) (n : Nat) : Prop := decode code pc = .ok (i, n) ∧ pc + n = pc'
def ja_to (code : ByteArray) (pc pc' tgt : Nat) (i : Instr) (off : Int) : Prop := decode code pc = .ok (i, 3) ∧ pc + 3 = pc' ∧ (pc : Int) + off = (tgt : Int)
def ja_AO (C : String) (U : State) : Prop := va_AO C U ∧ (Cond.arrayOver (.array .int)).before #[] U = true
theorem ja_AO.moved {C : String} {u U : State} (hvm : u.vm.Alike U.vm) (h : ja_AO C u) : ja_AO C U := ⟨va_AO.moved hvm h.1, over_moved hvm h.2⟩
def ja_G (p : Program) (R : Room) (s : State) (m : MethodId) (args : Array Value) (meth : Method) (c : Code) (D : va_G) (g : Nat × Nat) (M : ja_M) (d : Nat) : Prop :=
  p.tables.exec = Jvm.exec ∧ c.code = M.2.1 ∧ c.maxLocals = M.2.2.1 ∧ s.vm.findClass M.1.cls = some m.cls ∧ (∀ w ∈ ja_ws, w.before args s = true) ∧ va_K D ja_cl (ja_t D) s ∧ (∀ w ∈ ja_nw, va_Nw w s) ∧ d ≤ R.frames ∧ 40 * d ≤ R.locals ∧ meth.name = M.1.name ∧ meth.sig.returnType = M.2.2.2 ∧ meth.locks = false ∧ (∀ C ∈ ja_ao, ja_AO C s) ∧ g.2 ≤ s.heap.size
def AW (p : Program) (l : Launch) (e : Env) (R : Room) (s : State) (m : MethodId) (args : Array Value) (below : List Frame) (meth : Method) (c : Code) (Q : State → Prop) (D : va_G) (g : Nat × Nat) (nL : Nat) (pc : Nat) (loc st : List Value) (X : ja_H) (nc ns : Nat) : Prop :=
  ∀ (H : Heap) (locs : List Loc) (ls : Array Slot), va_P D ja_cl (ja_w D g X) H → va_S (fun q => g.2 ≤ q) s.heap H locs → g.2 + X.length = s.heap.size + nc + 1 → X.head? = some ja_z → ja_L g nL loc ls →
    W p l e R s m args below meth c H locs nc ns Q (F0 m pc ls (st.map (ja_v g)))
section JROWS
variable {p : Program} {l : Launch} {e : Env} {R : Room} {s : State} {m : MethodId} {args : Array Value} {below : List Frame} {meth : Method} {c : Code} {Q : State → Prop} {D : va_G} {g : Nat × Nat} {M : ja_M} {d : Nat} {pc pc' : Nat} {loc st : List Value} {X : ja_H} {nc ns : Nat}
theorem aw_iconst (hE : ja_G p R s m args meth c D g M d) {n : Int} {v : Int32} (h : ja_at M.2.1 pc pc' (.iconst n) 1) (hv : Int32.ofInt n = v) (k : AW p l e R s m args below meth c Q D g M.2.2.1 pc' loc (.int v :: st) X nc ns) : AW p l e R s m args below meth c Q D g M.2.2.1 pc loc (st) X nc ns := by
  obtain ⟨hd, rfl⟩ := h
  exact fun H locs ls hP hS hz h0 hl => lv_iconst hE.1 hE.2.1 hd hv (k H locs ls hP hS hz h0 hl)
theorem aw_bipush (hE : ja_G p R s m args meth c D g M d) {n : Int} {v : Int32} (h : ja_at M.2.1 pc pc' (.bipush n) 2) (hv : (Int8.ofInt n).toInt32 = v) (k : AW p l e R s m args below meth c Q D g M.2.2.1 pc' loc (.int v :: st) X nc ns) : AW p l e R s m args below meth c Q D g M.2.2.1 pc loc (st) X nc ns := by
  obtain ⟨hd, rfl⟩ := h
  exact fun H locs ls hP hS hz h0 hl => lv_bipush hE.1 hE.2.1 hd hv (k H locs ls hP hS hz h0 hl)
theorem aw_sipush (hE : ja_G p R s m args meth c D g M d) {n : Int} {v : Int32} (h : ja_at M.2.1 pc pc' (.sipush n) 3) (hv : (Int16.ofInt n).toInt32 = v) (k : AW p l e R s m args below meth c Q D g M.2.2.1 pc' loc (.int v :: st) X nc ns) : AW p l e R s m args below meth c Q D g M.2.2.1 pc loc (st) X nc ns := by
  obtain ⟨hd, rfl⟩ := h
  exact fun H locs ls hP hS hz h0 hl => lv_sipush hE.1 hE.2.1 hd hv (k H locs ls hP hS hz h0 hl)
theorem aw_lconst (hE : ja_G p R s m args meth c D g M d) {n : Fin 2} {v : Int64} (h : ja_at M.2.1 pc pc' (.lconst n) 1) (hv : Int64.ofNat (n : Nat) = v) (k : AW p l e R s m args below meth c Q D g M.2.2.1 pc' loc (.long v :: st) X nc ns) : AW p l e R s m args below meth c Q D g M.2.2.1 pc loc (st) X nc ns := by
  obtain ⟨hd, rfl⟩ := h
  exact fun H locs ls hP hS hz h0 hl => lv_lconst hE.1 hE.2.1 hd hv (k H locs ls hP hS hz h0 hl)
theorem aw_ldc (hE : ja_G p R s m args meth c D g M d) {index : Nat} {v : Int32} (h : ja_at M.2.1 pc pc' (.ldc index) 2) (hw : Cond.constant M.1.cls index v ∈ ja_ws) (k : AW p l e R s m args below meth c Q D g M.2.2.1 pc' loc (.int v :: st) X nc ns) : AW p l e R s m args below meth c Q D g M.2.2.1 pc loc (st) X nc ns := by
  obtain ⟨hd, rfl⟩ := h
  exact fun H locs ls hP hS hz h0 hl => lv_ldc hE.1 hE.2.1 hE.2.2.2.1 (hE.2.2.2.2.1 _ hw) hd (k H locs ls hP hS hz h0 hl)
theorem aw_ldcw (hE : ja_G p R s m args meth c D g M d) {index : Nat} {v : Int32} (h : ja_at M.2.1 pc pc' (.ldc_w index) 3) (hw : Cond.constant M.1.cls index v ∈ ja_ws) (k : AW p l e R s m args below meth c Q D g M.2.2.1 pc' loc (.int v :: st) X nc ns) : AW p l e R s m args below meth c Q D g M.2.2.1 pc loc (st) X nc ns := by
  obtain ⟨hd, rfl⟩ := h
  exact fun H locs ls hP hS hz h0 hl => lv_ldcw hE.1 hE.2.1 hE.2.2.2.1 (hE.2.2.2.2.1 _ hw) hd (k H locs ls hP hS hz h0 hl)
theorem aw_ldc2 (hE : ja_G p R s m args meth c D g M d) {index : Nat} {v : Int64} (h : ja_at M.2.1 pc pc' (.ldc2_w index) 3) (hw : Cond.constantLong M.1.cls index v ∈ ja_ws) (k : AW p l e R s m args below meth c Q D g M.2.2.1 pc' loc (.long v :: st) X nc ns) : AW p l e R s m args below meth c Q D g M.2.2.1 pc loc (st) X nc ns := by
  obtain ⟨hd, rfl⟩ := h
  exact fun H locs ls hP hS hz h0 hl => lv_ldc2 hE.1 hE.2.1 hE.2.2.2.1 (hE.2.2.2.2.1 _ hw) hd (k H locs ls hP hS hz h0 hl)
theorem aw_iload_n (hE : ja_G p R s m args meth c D g M d) {i : Fin 4} {v : Int32} (h : ja_at M.2.1 pc pc' (.iload_n i) 1) (hv : loc[(i : Nat)]? = some (.int v)) (k : AW p l e R s m args below meth c Q D g M.2.2.1 pc' loc (.int v :: st) X nc ns) : AW p l e R s m args below meth c Q D g M.2.2.1 pc loc (st) X nc ns := by
  obtain ⟨hd, rfl⟩ := h
  exact fun H locs ls hP hS hz h0 hl => lv_iload_n hE.1 hE.2.1 hd rfl (hl.2.2 _ _ hv (ja_ok_i v)) (k H locs ls hP hS hz h0 hl)
theorem aw_iload (hE : ja_G p R s m args meth c D g M d) {i : Nat} {v : Int32} (h : ja_at M.2.1 pc pc' (.iload i) 2) (hv : loc[i]? = some (.int v)) (k : AW p l e R s m args below meth c Q D g M.2.2.1 pc' loc (.int v :: st) X nc ns) : AW p l e R s m args below meth c Q D g M.2.2.1 pc loc (st) X nc ns := by
  obtain ⟨hd, rfl⟩ := h
  exact fun H locs ls hP hS hz h0 hl => lv_iload hE.1 hE.2.1 hd (hl.2.2 _ _ hv (ja_ok_i v)) (k H locs ls hP hS hz h0 hl)
theorem aw_lload_n (hE : ja_G p R s m args meth c D g M d) {i : Fin 4} {v : Int64} (h : ja_at M.2.1 pc pc' (.lload_n i) 1) (hv : loc[(i : Nat)]? = some (.long v)) (k : AW p l e R s m args below meth c Q D g M.2.2.1 pc' loc (.long v :: st) X nc ns) : AW p l e R s m args below meth c Q D g M.2.2.1 pc loc (st) X nc ns := by
  obtain ⟨hd, rfl⟩ := h
  exact fun H locs ls hP hS hz h0 hl => lv_lload_n hE.1 hE.2.1 hd rfl (hl.2.2 _ _ hv (ja_ok_l v)) (k H locs ls hP hS hz h0 hl)
theorem aw_lload (hE : ja_G p R s m args meth c D g M d) {i : Nat} {v : Int64} (h : ja_at M.2.1 pc pc' (.lload i) 2) (hv : loc[i]? = some (.long v)) (k : AW p l e R s m args below meth c Q D g M.2.2.1 pc' loc (.long v :: st) X nc ns) : AW p l e R s m args below meth c Q D g M.2.2.1 pc loc (st) X nc ns := by
  obtain ⟨hd, rfl⟩ := h
  exact fun H locs ls hP hS hz h0 hl => lv_lload hE.1 hE.2.1 hd (hl.2.2 _ _ hv (ja_ok_l v)) (k H locs ls hP hS hz h0 hl)
theorem aw_aload_n (hE : ja_G p R s m args meth c D g M d) {i : Fin 4} {v : Nat} (h : ja_at M.2.1 pc pc' (.aload_n i) 1) (hv : loc[(i : Nat)]? = some (.ref v)) (k : AW p l e R s m args below meth c Q D g M.2.2.1 pc' loc (.ref v :: st) X nc ns) : AW p l e R s m args below meth c Q D g M.2.2.1 pc loc (st) X nc ns := by
  obtain ⟨hd, rfl⟩ := h
  exact fun H locs ls hP hS hz h0 hl => lv_aload_n hE.1 hE.2.1 hd rfl (hl.2.2 _ _ hv (ja_ok_r v)) (k H locs ls hP hS hz h0 hl)
theorem aw_aload (hE : ja_G p R s m args meth c D g M d) {i : Nat} {v : Nat} (h : ja_at M.2.1 pc pc' (.aload i) 2) (hv : loc[i]? = some (.ref v)) (k : AW p l e R s m args below meth c Q D g M.2.2.1 pc' loc (.ref v :: st) X nc ns) : AW p l e R s m args below meth c Q D g M.2.2.1 pc loc (st) X nc ns := by
  obtain ⟨hd, rfl⟩ := h
  exact fun H locs ls hP hS hz h0 hl => lv_aload hE.1 hE.2.1 hd (hl.2.2 _ _ hv (ja_ok_r v)) (k H locs ls hP hS hz h0 hl)
theorem aw_istore_n (hE : ja_G p R s m args meth c D g M d) {k : Fin 4} {i : Nat} {v : Int32} {loc' : List Value} (h : ja_at M.2.1 pc pc' (.istore_n k) 1) (hi : (k : Nat) = i) (hn : i < M.2.2.1) (hl' : ja_s1 loc i (.int v) = loc') (kk : AW p l e R s m args below meth c Q D g M.2.2.1 pc' loc' st X nc ns) : AW p l e R s m args below meth c Q D g M.2.2.1 pc loc (.int v :: st) X nc ns := by
  obtain ⟨hd, rfl⟩ := h
  subst hl'
  exact fun H locs ls hP hS hz h0 hl => lv_istore_n hE.1 hE.2.1 hd hi hl.has hn rfl (fun ls' h' => kk H locs ls' hP hS hz h0 (ja_L.s1 (v := .int v) h'))
theorem aw_istore (hE : ja_G p R s m args meth c D g M d) {i : Nat} {v : Int32} {loc' : List Value} (h : ja_at M.2.1 pc pc' (.istore i) 2) (hn : i < M.2.2.1) (hl' : ja_s1 loc i (.int v) = loc') (kk : AW p l e R s m args below meth c Q D g M.2.2.1 pc' loc' st X nc ns) : AW p l e R s m args below meth c Q D g M.2.2.1 pc loc (.int v :: st) X nc ns := by
  obtain ⟨hd, rfl⟩ := h
  subst hl'
  exact fun H locs ls hP hS hz h0 hl => lv_istore hE.1 hE.2.1 hd hl.has hn rfl (fun ls' h' => kk H locs ls' hP hS hz h0 (ja_L.s1 (v := .int v) h'))
theorem aw_lstore_n (hE : ja_G p R s m args meth c D g M d) {k : Fin 4} {i : Nat} {v : Int64} {loc' : List Value} (h : ja_at M.2.1 pc pc' (.lstore_n k) 1) (hi : (k : Nat) = i) (hn : i + 1 < M.2.2.1) (hl' : ja_s2 loc i (.long v) = loc') (kk : AW p l e R s m args below meth c Q D g M.2.2.1 pc' loc' st X nc ns) : AW p l e R s m args below meth c Q D g M.2.2.1 pc loc (.long v :: st) X nc ns := by
  obtain ⟨hd, rfl⟩ := h
  subst hl'
  exact fun H locs ls hP hS hz h0 hl => lv_lstore_n hE.1 hE.2.1 hd hi hl.has hn rfl (fun ls' h' => kk H locs ls' hP hS hz h0 (ja_L.s2 (v := .long v) h'))
theorem aw_lstore (hE : ja_G p R s m args meth c D g M d) {i : Nat} {v : Int64} {loc' : List Value} (h : ja_at M.2.1 pc pc' (.lstore i) 2) (hn : i + 1 < M.2.2.1) (hl' : ja_s2 loc i (.long v) = loc') (kk : AW p l e R s m args below meth c Q D g M.2.2.1 pc' loc' st X nc ns) : AW p l e R s m args below meth c Q D g M.2.2.1 pc loc (.long v :: st) X nc ns := by
  obtain ⟨hd, rfl⟩ := h
  subst hl'
  exact fun H locs ls hP hS hz h0 hl => lv_lstore hE.1 hE.2.1 hd hl.has hn rfl (fun ls' h' => kk H locs ls' hP hS hz h0 (ja_L.s2 (v := .long v) h'))
theorem aw_astore_n (hE : ja_G p R s m args meth c D g M d) {k : Fin 4} {i : Nat} {v : Nat} {loc' : List Value} (h : ja_at M.2.1 pc pc' (.astore_n k) 1) (hi : (k : Nat) = i) (hn : i < M.2.2.1) (hl' : ja_s1 loc i (.ref v) = loc') (kk : AW p l e R s m args below meth c Q D g M.2.2.1 pc' loc' st X nc ns) : AW p l e R s m args below meth c Q D g M.2.2.1 pc loc (.ref v :: st) X nc ns := by
  obtain ⟨hd, rfl⟩ := h
  subst hl'
  exact fun H locs ls hP hS hz h0 hl => lv_astore_n hE.1 hE.2.1 hd hi hl.has hn rfl (fun ls' h' => kk H locs ls' hP hS hz h0 (ja_L.s1 (v := .ref v) h'))
theorem aw_astore (hE : ja_G p R s m args meth c D g M d) {i : Nat} {v : Nat} {loc' : List Value} (h : ja_at M.2.1 pc pc' (.astore i) 2) (hn : i < M.2.2.1) (hl' : ja_s1 loc i (.ref v) = loc') (kk : AW p l e R s m args below meth c Q D g M.2.2.1 pc' loc' st X nc ns) : AW p l e R s m args below meth c Q D g M.2.2.1 pc loc (.ref v :: st) X nc ns := by
  obtain ⟨hd, rfl⟩ := h
  subst hl'
  exact fun H locs ls hP hS hz h0 hl => lv_astore hE.1 hE.2.1 hd hl.has hn rfl (fun ls' h' => kk H locs ls' hP hS hz h0 (ja_L.s1 (v := .ref v) h'))
theorem aw_iinc (hE : ja_G p R s m args meth c D g M d) {i : Nat} {n : Int} {x v : Int32} {loc' : List Value} (h : ja_at M.2.1 pc pc' (.iinc i n) 3) (hx : loc[i]? = some (.int x)) (hv : x + Int32.ofInt n = v) (hn : i < M.2.2.1) (hl' : ja_s1 loc i (.int v) = loc') (kk : AW p l e R s m args below meth c Q D g M.2.2.1 pc' loc' st X nc ns) : AW p l e R s m args below meth c Q D g M.2.2.1 pc loc st X nc ns := by
  obtain ⟨hd, rfl⟩ := h
  subst hl'
  intro H locs ls hP hS hz h0 hl
  have hh := hl.has
  have hm : (i, Value.int x) ∈ (loc.zipIdx.filterMap (fun q => match q.1 with | .retAddr _ => none | v => some (q.2, ja_v g v))) := List.mem_filterMap.mpr ⟨(.int x, i), List.mem_zipIdx_iff_getElem?.mpr hx, rfl⟩
  obtain ⟨j, hj⟩ := List.getElem?_of_mem hm
  exact lv_iinc hE.1 hE.2.1 hd hh hj hv hn rfl (fun ls' h' => kk H locs ls' hP hS hz h0 (ja_L.s1 (v := .int v) h'))
theorem aw_iadd (hE : ja_G p R s m args meth c D g M d) {x y : Int32} (h : ja_at M.2.1 pc pc' .iadd 1) (k : AW p l e R s m args below meth c Q D g M.2.2.1 pc' loc (.int (x + y) :: st) X nc ns) : AW p l e R s m args below meth c Q D g M.2.2.1 pc loc (.int y :: .int x :: st) X nc ns := by
  obtain ⟨hd, rfl⟩ := h
  exact fun H locs ls hP hS hz h0 hl => lv_iadd hE.1 hE.2.1 hd (k H locs ls hP hS hz h0 hl)
theorem aw_isub (hE : ja_G p R s m args meth c D g M d) {x y : Int32} (h : ja_at M.2.1 pc pc' .isub 1) (k : AW p l e R s m args below meth c Q D g M.2.2.1 pc' loc (.int (x - y) :: st) X nc ns) : AW p l e R s m args below meth c Q D g M.2.2.1 pc loc (.int y :: .int x :: st) X nc ns := by
  obtain ⟨hd, rfl⟩ := h
  exact fun H locs ls hP hS hz h0 hl => lv_isub hE.1 hE.2.1 hd (k H locs ls hP hS hz h0 hl)
theorem aw_imul (hE : ja_G p R s m args meth c D g M d) {x y : Int32} (h : ja_at M.2.1 pc pc' .imul 1) (k : AW p l e R s m args below meth c Q D g M.2.2.1 pc' loc (.int (x * y) :: st) X nc ns) : AW p l e R s m args below meth c Q D g M.2.2.1 pc loc (.int y :: .int x :: st) X nc ns := by
  obtain ⟨hd, rfl⟩ := h
  exact fun H locs ls hP hS hz h0 hl => lv_imul hE.1 hE.2.1 hd (k H locs ls hP hS hz h0 hl)
theorem aw_iand (hE : ja_G p R s m args meth c D g M d) {x y : Int32} (h : ja_at M.2.1 pc pc' .iand 1) (k : AW p l e R s m args below meth c Q D g M.2.2.1 pc' loc (.int (x &&& y) :: st) X nc ns) : AW p l e R s m args below meth c Q D g M.2.2.1 pc loc (.int y :: .int x :: st) X nc ns := by
  obtain ⟨hd, rfl⟩ := h
  exact fun H locs ls hP hS hz h0 hl => lv_iand hE.1 hE.2.1 hd (k H locs ls hP hS hz h0 hl)
theorem aw_ior (hE : ja_G p R s m args meth c D g M d) {x y : Int32} (h : ja_at M.2.1 pc pc' .ior 1) (k : AW p l e R s m args below meth c Q D g M.2.2.1 pc' loc (.int (x ||| y) :: st) X nc ns) : AW p l e R s m args below meth c Q D g M.2.2.1 pc loc (.int y :: .int x :: st) X nc ns := by
  obtain ⟨hd, rfl⟩ := h
  exact fun H locs ls hP hS hz h0 hl => lv_ior hE.1 hE.2.1 hd (k H locs ls hP hS hz h0 hl)
theorem aw_ixor (hE : ja_G p R s m args meth c D g M d) {x y : Int32} (h : ja_at M.2.1 pc pc' .ixor 1) (k : AW p l e R s m args below meth c Q D g M.2.2.1 pc' loc (.int (x ^^^ y) :: st) X nc ns) : AW p l e R s m args below meth c Q D g M.2.2.1 pc loc (.int y :: .int x :: st) X nc ns := by
  obtain ⟨hd, rfl⟩ := h
  exact fun H locs ls hP hS hz h0 hl => lv_ixor hE.1 hE.2.1 hd (k H locs ls hP hS hz h0 hl)
theorem aw_ishl (hE : ja_G p R s m args meth c D g M d) {x y : Int32} (h : ja_at M.2.1 pc pc' .ishl 1) (k : AW p l e R s m args below meth c Q D g M.2.2.1 pc' loc (.int (x <<< (y &&& 31)) :: st) X nc ns) : AW p l e R s m args below meth c Q D g M.2.2.1 pc loc (.int y :: .int x :: st) X nc ns := by
  obtain ⟨hd, rfl⟩ := h
  exact fun H locs ls hP hS hz h0 hl => lv_ishl hE.1 hE.2.1 hd (k H locs ls hP hS hz h0 hl)
theorem aw_ishr (hE : ja_G p R s m args meth c D g M d) {x y : Int32} (h : ja_at M.2.1 pc pc' .ishr 1) (k : AW p l e R s m args below meth c Q D g M.2.2.1 pc' loc (.int (x >>> (y &&& 31)) :: st) X nc ns) : AW p l e R s m args below meth c Q D g M.2.2.1 pc loc (.int y :: .int x :: st) X nc ns := by
  obtain ⟨hd, rfl⟩ := h
  exact fun H locs ls hP hS hz h0 hl => lv_ishr hE.1 hE.2.1 hd (k H locs ls hP hS hz h0 hl)
theorem aw_iushr (hE : ja_G p R s m args meth c D g M d) {x y v : Int32} (h : ja_at M.2.1 pc pc' .iushr 1) (hv : (x.toUInt32 >>> (y.toUInt32 &&& Int32.toUInt32 31)).toInt32 = v) (k : AW p l e R s m args below meth c Q D g M.2.2.1 pc' loc (.int v :: st) X nc ns) : AW p l e R s m args below meth c Q D g M.2.2.1 pc loc (.int y :: .int x :: st) X nc ns := by
  obtain ⟨hd, rfl⟩ := h
  exact fun H locs ls hP hS hz h0 hl => lv_iushr hE.1 hE.2.1 hd hv (k H locs ls hP hS hz h0 hl)
theorem aw_idiv (hE : ja_G p R s m args meth c D g M d) {x y : Int32} (h : ja_at M.2.1 pc pc' .idiv 1) (hne : ¬ y = 0) (k : AW p l e R s m args below meth c Q D g M.2.2.1 pc' loc (.int (x / y) :: st) X nc ns) : AW p l e R s m args below meth c Q D g M.2.2.1 pc loc (.int y :: .int x :: st) X nc ns := by
  obtain ⟨hd, rfl⟩ := h
  exact fun H locs ls hP hS hz h0 hl => lv_idiv hE.1 hE.2.1 hd hne (k H locs ls hP hS hz h0 hl)
theorem aw_irem (hE : ja_G p R s m args meth c D g M d) {x y : Int32} (h : ja_at M.2.1 pc pc' .irem 1) (hne : ¬ y = 0) (k : AW p l e R s m args below meth c Q D g M.2.2.1 pc' loc (.int (x - x / y * y) :: st) X nc ns) : AW p l e R s m args below meth c Q D g M.2.2.1 pc loc (.int y :: .int x :: st) X nc ns := by
  obtain ⟨hd, rfl⟩ := h
  exact fun H locs ls hP hS hz h0 hl => lv_irem hE.1 hE.2.1 hd hne (k H locs ls hP hS hz h0 hl)
theorem aw_ineg (hE : ja_G p R s m args meth c D g M d) {x : Int32} (h : ja_at M.2.1 pc pc' .ineg 1) (k : AW p l e R s m args below meth c Q D g M.2.2.1 pc' loc (.int (-x) :: st) X nc ns) : AW p l e R s m args below meth c Q D g M.2.2.1 pc loc (.int x :: st) X nc ns := by
  obtain ⟨hd, rfl⟩ := h
  exact fun H locs ls hP hS hz h0 hl => lv_ineg hE.1 hE.2.1 hd (k H locs ls hP hS hz h0 hl)
theorem aw_ladd (hE : ja_G p R s m args meth c D g M d) {x y : Int64} (h : ja_at M.2.1 pc pc' .ladd 1) (k : AW p l e R s m args below meth c Q D g M.2.2.1 pc' loc (.long (x + y) :: st) X nc ns) : AW p l e R s m args below meth c Q D g M.2.2.1 pc loc (.long y :: .long x :: st) X nc ns := by
  obtain ⟨hd, rfl⟩ := h
  exact fun H locs ls hP hS hz h0 hl => lv_ladd hE.1 hE.2.1 hd (k H locs ls hP hS hz h0 hl)
theorem aw_lsub (hE : ja_G p R s m args meth c D g M d) {x y : Int64} (h : ja_at M.2.1 pc pc' .lsub 1) (k : AW p l e R s m args below meth c Q D g M.2.2.1 pc' loc (.long (x - y) :: st) X nc ns) : AW p l e R s m args below meth c Q D g M.2.2.1 pc loc (.long y :: .long x :: st) X nc ns := by
  obtain ⟨hd, rfl⟩ := h
  exact fun H locs ls hP hS hz h0 hl => lv_lsub hE.1 hE.2.1 hd (k H locs ls hP hS hz h0 hl)
theorem aw_lmul (hE : ja_G p R s m args meth c D g M d) {x y : Int64} (h : ja_at M.2.1 pc pc' .lmul 1) (k : AW p l e R s m args below meth c Q D g M.2.2.1 pc' loc (.long (x * y) :: st) X nc ns) : AW p l e R s m args below meth c Q D g M.2.2.1 pc loc (.long y :: .long x :: st) X nc ns := by
  obtain ⟨hd, rfl⟩ := h
  exact fun H locs ls hP hS hz h0 hl => lv_lmul hE.1 hE.2.1 hd (k H locs ls hP hS hz h0 hl)
theorem aw_land (hE : ja_G p R s m args meth c D g M d) {x y : Int64} (h : ja_at M.2.1 pc pc' .land 1) (k : AW p l e R s m args below meth c Q D g M.2.2.1 pc' loc (.long (x &&& y) :: st) X nc ns) : AW p l e R s m args below meth c Q D g M.2.2.1 pc loc (.long y :: .long x :: st) X nc ns := by
  obtain ⟨hd, rfl⟩ := h
  exact fun H locs ls hP hS hz h0 hl => lv_land hE.1 hE.2.1 hd (k H locs ls hP hS hz h0 hl)
theorem aw_lor (hE : ja_G p R s m args meth c D g M d) {x y : Int64} (h : ja_at M.2.1 pc pc' .lor 1) (k : AW p l e R s m args below meth c Q D g M.2.2.1 pc' loc (.long (x ||| y) :: st) X nc ns) : AW p l e R s m args below meth c Q D g M.2.2.1 pc loc (.long y :: .long x :: st) X nc ns := by
  obtain ⟨hd, rfl⟩ := h
  exact fun H locs ls hP hS hz h0 hl => lv_lor hE.1 hE.2.1 hd (k H locs ls hP hS hz h0 hl)
theorem aw_lxor (hE : ja_G p R s m args meth c D g M d) {x y : Int64} (h : ja_at M.2.1 pc pc' .lxor 1) (k : AW p l e R s m args below meth c Q D g M.2.2.1 pc' loc (.long (x ^^^ y) :: st) X nc ns) : AW p l e R s m args below meth c Q D g M.2.2.1 pc loc (.long y :: .long x :: st) X nc ns := by
  obtain ⟨hd, rfl⟩ := h
  exact fun H locs ls hP hS hz h0 hl => lv_lxor hE.1 hE.2.1 hd (k H locs ls hP hS hz h0 hl)
theorem aw_lshl (hE : ja_G p R s m args meth c D g M d) {x v : Int64} {y : Int32} (h : ja_at M.2.1 pc pc' .lshl 1) (hv : x <<< (y.toInt64 &&& 63) = v) (k : AW p l e R s m args below meth c Q D g M.2.2.1 pc' loc (.long v :: st) X nc ns) : AW p l e R s m args below meth c Q D g M.2.2.1 pc loc (.int y :: .long x :: st) X nc ns := by
  obtain ⟨hd, rfl⟩ := h
  exact fun H locs ls hP hS hz h0 hl => lv_lshl hE.1 hE.2.1 hd hv (k H locs ls hP hS hz h0 hl)
theorem aw_lushr (hE : ja_G p R s m args meth c D g M d) {x v : Int64} {y : Int32} (h : ja_at M.2.1 pc pc' .lushr 1) (hv : (x.toUInt64 >>> (y.toInt64.toUInt64 &&& Int64.toUInt64 63)).toInt64 = v) (k : AW p l e R s m args below meth c Q D g M.2.2.1 pc' loc (.long v :: st) X nc ns) : AW p l e R s m args below meth c Q D g M.2.2.1 pc loc (.int y :: .long x :: st) X nc ns := by
  obtain ⟨hd, rfl⟩ := h
  exact fun H locs ls hP hS hz h0 hl => lv_lushr hE.1 hE.2.1 hd hv (k H locs ls hP hS hz h0 hl)
theorem aw_i2l (hE : ja_G p R s m args meth c D g M d) {x : Int32} {v : Int64} (h : ja_at M.2.1 pc pc' .i2l 1) (hv : x.toInt64 = v) (k : AW p l e R s m args below meth c Q D g M.2.2.1 pc' loc (.long v :: st) X nc ns) : AW p l e R s m args below meth c Q D g M.2.2.1 pc loc (.int x :: st) X nc ns := by
  obtain ⟨hd, rfl⟩ := h
  exact fun H locs ls hP hS hz h0 hl => lv_i2l hE.1 hE.2.1 hd hv (k H locs ls hP hS hz h0 hl)
theorem aw_l2i (hE : ja_G p R s m args meth c D g M d) {x : Int64} {v : Int32} (h : ja_at M.2.1 pc pc' .l2i 1) (hv : x.toInt32 = v) (k : AW p l e R s m args below meth c Q D g M.2.2.1 pc' loc (.int v :: st) X nc ns) : AW p l e R s m args below meth c Q D g M.2.2.1 pc loc (.long x :: st) X nc ns := by
  obtain ⟨hd, rfl⟩ := h
  exact fun H locs ls hP hS hz h0 hl => lv_l2i hE.1 hE.2.1 hd hv (k H locs ls hP hS hz h0 hl)
theorem aw_ldiv (hE : ja_G p R s m args meth c D g M d) {x y : Int64} (h : ja_at M.2.1 pc pc' .ldiv 1) (hne : ¬ y = 0) (k : AW p l e R s m args below meth c Q D g M.2.2.1 pc' loc (.long (x / y) :: st) X nc ns) : AW p l e R s m args below meth c Q D g M.2.2.1 pc loc (.long y :: .long x :: st) X nc ns := by
  obtain ⟨hd, rfl⟩ := h
  exact fun H locs ls hP hS hz h0 hl => lv_ldiv hE.1 hE.2.1 hd hne (k H locs ls hP hS hz h0 hl)
theorem aw_lrem (hE : ja_G p R s m args meth c D g M d) {x y : Int64} (h : ja_at M.2.1 pc pc' .lrem 1) (hne : ¬ y = 0) (k : AW p l e R s m args below meth c Q D g M.2.2.1 pc' loc (.long (x - x / y * y) :: st) X nc ns) : AW p l e R s m args below meth c Q D g M.2.2.1 pc loc (.long y :: .long x :: st) X nc ns := by
  obtain ⟨hd, rfl⟩ := h
  exact fun H locs ls hP hS hz h0 hl => lv_lrem hE.1 hE.2.1 hd hne (k H locs ls hP hS hz h0 hl)
theorem aw_lshr (hE : ja_G p R s m args meth c D g M d) {x v : Int64} {y : Int32} (h : ja_at M.2.1 pc pc' .lshr 1) (hv : x >>> (y.toInt64 &&& 63) = v) (k : AW p l e R s m args below meth c Q D g M.2.2.1 pc' loc (.long v :: st) X nc ns) : AW p l e R s m args below meth c Q D g M.2.2.1 pc loc (.int y :: .long x :: st) X nc ns := by
  obtain ⟨hd, rfl⟩ := h
  exact fun H locs ls hP hS hz h0 hl => lv_lshr hE.1 hE.2.1 hd hv (k H locs ls hP hS hz h0 hl)
theorem aw_i2b (hE : ja_G p R s m args meth c D g M d) {x v : Int32} (h : ja_at M.2.1 pc pc' .i2b 1) (hv : x.toInt8.toInt32 = v) (k : AW p l e R s m args below meth c Q D g M.2.2.1 pc' loc (.int v :: st) X nc ns) : AW p l e R s m args below meth c Q D g M.2.2.1 pc loc (.int x :: st) X nc ns := by
  obtain ⟨hd, rfl⟩ := h
  exact fun H locs ls hP hS hz h0 hl => lv_i2b hE.1 hE.2.1 hd hv (k H locs ls hP hS hz h0 hl)
theorem aw_lcmp (hE : ja_G p R s m args meth c D g M d) {x y : Int64} (h : ja_at M.2.1 pc pc' .lcmp 1) (k : AW p l e R s m args below meth c Q D g M.2.2.1 pc' loc (.int (lg_cmp x y) :: st) X nc ns) : AW p l e R s m args below meth c Q D g M.2.2.1 pc loc (.long y :: .long x :: st) X nc ns := by
  obtain ⟨hd, rfl⟩ := h
  exact fun H locs ls hP hS hz h0 hl => W.lcmp hE.1 hE.2.1 hd (k H locs ls hP hS hz h0 hl)
theorem aw_dup (hE : ja_G p R s m args meth c D g M d) {va : Value} (h : ja_at M.2.1 pc pc' .dup 1) (ha : va.category = 1) (k : AW p l e R s m args below meth c Q D g M.2.2.1 pc' loc (va :: va :: st) X nc ns) : AW p l e R s m args below meth c Q D g M.2.2.1 pc loc (va :: st) X nc ns := by
  obtain ⟨hd, rfl⟩ := h
  exact fun H locs ls hP hS hz h0 hl => lv_dup hE.1 hE.2.1 hd (by rw [ja_cat]; exact ha) (k H locs ls hP hS hz h0 hl)
theorem aw_pop (hE : ja_G p R s m args meth c D g M d) {va : Value} (h : ja_at M.2.1 pc pc' .pop 1) (ha : va.category = 1) (k : AW p l e R s m args below meth c Q D g M.2.2.1 pc' loc (st) X nc ns) : AW p l e R s m args below meth c Q D g M.2.2.1 pc loc (va :: st) X nc ns := by
  obtain ⟨hd, rfl⟩ := h
  exact fun H locs ls hP hS hz h0 hl => lv_pop hE.1 hE.2.1 hd (by rw [ja_cat]; exact ha) (k H locs ls hP hS hz h0 hl)
theorem aw_pop2 (hE : ja_G p R s m args meth c D g M d) {va : Value} (h : ja_at M.2.1 pc pc' .pop2 1) (ha : va.category = 2) (k : AW p l e R s m args below meth c Q D g M.2.2.1 pc' loc (st) X nc ns) : AW p l e R s m args below meth c Q D g M.2.2.1 pc loc (va :: st) X nc ns := by
  obtain ⟨hd, rfl⟩ := h
  exact fun H locs ls hP hS hz h0 hl => lv_pop2_2 hE.1 hE.2.1 hd (by rw [ja_cat]; exact ha) (k H locs ls hP hS hz h0 hl)
theorem aw_dup_x1 (hE : ja_G p R s m args meth c D g M d) {va vb : Value} (h : ja_at M.2.1 pc pc' .dup_x1 1) (ha : va.category = 1) (hb : vb.category = 1) (k : AW p l e R s m args below meth c Q D g M.2.2.1 pc' loc (va :: vb :: va :: st) X nc ns) : AW p l e R s m args below meth c Q D g M.2.2.1 pc loc (va :: vb :: st) X nc ns := by
  obtain ⟨hd, rfl⟩ := h
  exact fun H locs ls hP hS hz h0 hl => lv_dup_x1 hE.1 hE.2.1 hd (by rw [ja_cat]; exact ha) (by rw [ja_cat]; exact hb) (k H locs ls hP hS hz h0 hl)
theorem aw_dup_x2 (hE : ja_G p R s m args meth c D g M d) {va vb vd : Value} (h : ja_at M.2.1 pc pc' .dup_x2 1) (ha : va.category = 1) (hb : vb.category = 1) (hd1 : vd.category = 1) (k : AW p l e R s m args below meth c Q D g M.2.2.1 pc' loc (va :: vb :: vd :: va :: st) X nc ns) : AW p l e R s m args below meth c Q D g M.2.2.1 pc loc (va :: vb :: vd :: st) X nc ns := by
  obtain ⟨hd, rfl⟩ := h
  exact fun H locs ls hP hS hz h0 hl => lv_dup_x2 hE.1 hE.2.1 hd (by rw [ja_cat]; exact ha) (by rw [ja_cat]; exact hb) (by rw [ja_cat]; exact hd1) (k H locs ls hP hS hz h0 hl)
theorem aw_dup2 (hE : ja_G p R s m args meth c D g M d) {va vb : Value} (h : ja_at M.2.1 pc pc' .dup2 1) (ha : va.category = 1) (hb : vb.category = 1) (k : AW p l e R s m args below meth c Q D g M.2.2.1 pc' loc (va :: vb :: va :: vb :: st) X nc ns) : AW p l e R s m args below meth c Q D g M.2.2.1 pc loc (va :: vb :: st) X nc ns := by
  obtain ⟨hd, rfl⟩ := h
  exact fun H locs ls hP hS hz h0 hl => lv_dup2_11 hE.1 hE.2.1 hd (by rw [ja_cat]; exact ha) (by rw [ja_cat]; exact hb) (k H locs ls hP hS hz h0 hl)
theorem aw_dup2L (hE : ja_G p R s m args meth c D g M d) {va : Value} (h : ja_at M.2.1 pc pc' .dup2 1) (ha : va.category = 2) (k : AW p l e R s m args below meth c Q D g M.2.2.1 pc' loc (va :: va :: st) X nc ns) : AW p l e R s m args below meth c Q D g M.2.2.1 pc loc (va :: st) X nc ns := by
  obtain ⟨hd, rfl⟩ := h
  exact fun H locs ls hP hS hz h0 hl => lv_dup2_2 hE.1 hE.2.1 hd (by rw [ja_cat]; exact ha) (k H locs ls hP hS hz h0 hl)
theorem aw_if_eq (hE : ja_G p R s m args meth c D g M d) {x : Int32} {off : Int} {tgt : Nat} (h : ja_to M.2.1 pc pc' tgt (.ifCond .eq off) off) (kt : x = 0 → AW p l e R s m args below meth c Q D g M.2.2.1 tgt loc st X nc ns) (kf : ¬ x = 0 → AW p l e R s m args below meth c Q D g M.2.2.1 pc' loc st X nc ns) : AW p l e R s m args below meth c Q D g M.2.2.1 pc loc (.int x :: st) X nc ns := by
  obtain ⟨hd, rfl, ht⟩ := h
  exact fun H locs ls hP hS hz h0 hl => lv_if_eq hE.1 hE.2.1 hd ht (fun q => kt q H locs ls hP hS hz h0 hl) (fun q => kf q H locs ls hP hS hz h0 hl)
theorem aw_if_ne (hE : ja_G p R s m args meth c D g M d) {x : Int32} {off : Int} {tgt : Nat} (h : ja_to M.2.1 pc pc' tgt (.ifCond .ne off) off) (kt : ¬ x = 0 → AW p l e R s m args below meth c Q D g M.2.2.1 tgt loc st X nc ns) (kf : x = 0 → AW p l e R s m args below meth c Q D g M.2.2.1 pc' loc st X nc ns) : AW p l e R s m args below meth c Q D g M.2.2.1 pc loc (.int x :: st) X nc ns := by
  obtain ⟨hd, rfl, ht⟩ := h
  exact fun H locs ls hP hS hz h0 hl => lv_if_ne hE.1 hE.2.1 hd ht (fun q => kt q H locs ls hP hS hz h0 hl) (fun q => kf q H locs ls hP hS hz h0 hl)
theorem aw_if_lt (hE : ja_G p R s m args meth c D g M d) {x : Int32} {off : Int} {tgt : Nat} (h : ja_to M.2.1 pc pc' tgt (.ifCond .lt off) off) (kt : x < 0 → AW p l e R s m args below meth c Q D g M.2.2.1 tgt loc st X nc ns) (kf : ¬ x < 0 → AW p l e R s m args below meth c Q D g M.2.2.1 pc' loc st X nc ns) : AW p l e R s m args below meth c Q D g M.2.2.1 pc loc (.int x :: st) X nc ns := by
  obtain ⟨hd, rfl, ht⟩ := h
  exact fun H locs ls hP hS hz h0 hl => lv_if_lt hE.1 hE.2.1 hd ht (fun q => kt q H locs ls hP hS hz h0 hl) (fun q => kf q H locs ls hP hS hz h0 hl)
theorem aw_if_ge (hE : ja_G p R s m args meth c D g M d) {x : Int32} {off : Int} {tgt : Nat} (h : ja_to M.2.1 pc pc' tgt (.ifCond .ge off) off) (kt : 0 ≤ x → AW p l e R s m args below meth c Q D g M.2.2.1 tgt loc st X nc ns) (kf : ¬ 0 ≤ x → AW p l e R s m args below meth c Q D g M.2.2.1 pc' loc st X nc ns) : AW p l e R s m args below meth c Q D g M.2.2.1 pc loc (.int x :: st) X nc ns := by
  obtain ⟨hd, rfl, ht⟩ := h
  exact fun H locs ls hP hS hz h0 hl => lv_if_ge hE.1 hE.2.1 hd ht (fun q => kt q H locs ls hP hS hz h0 hl) (fun q => kf q H locs ls hP hS hz h0 hl)
theorem aw_if_gt (hE : ja_G p R s m args meth c D g M d) {x : Int32} {off : Int} {tgt : Nat} (h : ja_to M.2.1 pc pc' tgt (.ifCond .gt off) off) (kt : 0 < x → AW p l e R s m args below meth c Q D g M.2.2.1 tgt loc st X nc ns) (kf : ¬ 0 < x → AW p l e R s m args below meth c Q D g M.2.2.1 pc' loc st X nc ns) : AW p l e R s m args below meth c Q D g M.2.2.1 pc loc (.int x :: st) X nc ns := by
  obtain ⟨hd, rfl, ht⟩ := h
  exact fun H locs ls hP hS hz h0 hl => lv_if_gt hE.1 hE.2.1 hd ht (fun q => kt q H locs ls hP hS hz h0 hl) (fun q => kf q H locs ls hP hS hz h0 hl)
theorem aw_if_le (hE : ja_G p R s m args meth c D g M d) {x : Int32} {off : Int} {tgt : Nat} (h : ja_to M.2.1 pc pc' tgt (.ifCond .le off) off) (kt : x ≤ 0 → AW p l e R s m args below meth c Q D g M.2.2.1 tgt loc st X nc ns) (kf : ¬ x ≤ 0 → AW p l e R s m args below meth c Q D g M.2.2.1 pc' loc st X nc ns) : AW p l e R s m args below meth c Q D g M.2.2.1 pc loc (.int x :: st) X nc ns := by
  obtain ⟨hd, rfl, ht⟩ := h
  exact fun H locs ls hP hS hz h0 hl => lv_if_le hE.1 hE.2.1 hd ht (fun q => kt q H locs ls hP hS hz h0 hl) (fun q => kf q H locs ls hP hS hz h0 hl)
theorem aw_icmp_eq (hE : ja_G p R s m args meth c D g M d) {x y : Int32} {off : Int} {tgt : Nat} (h : ja_to M.2.1 pc pc' tgt (.if_icmp .eq off) off) (kt : x = y → AW p l e R s m args below meth c Q D g M.2.2.1 tgt loc st X nc ns) (kf : ¬ x = y → AW p l e R s m args below meth c Q D g M.2.2.1 pc' loc st X nc ns) : AW p l e R s m args below meth c Q D g M.2.2.1 pc loc (.int y :: .int x :: st) X nc ns := by
  obtain ⟨hd, rfl, ht⟩ := h
  exact fun H locs ls hP hS hz h0 hl => lv_icmp_eq hE.1 hE.2.1 hd ht (fun q => kt q H locs ls hP hS hz h0 hl) (fun q => kf q H locs ls hP hS hz h0 hl)
theorem aw_icmp_ne (hE : ja_G p R s m args meth c D g M d) {x y : Int32} {off : Int} {tgt : Nat} (h : ja_to M.2.1 pc pc' tgt (.if_icmp .ne off) off) (kt : ¬ x = y → AW p l e R s m args below meth c Q D g M.2.2.1 tgt loc st X nc ns) (kf : x = y → AW p l e R s m args below meth c Q D g M.2.2.1 pc' loc st X nc ns) : AW p l e R s m args below meth c Q D g M.2.2.1 pc loc (.int y :: .int x :: st) X nc ns := by
  obtain ⟨hd, rfl, ht⟩ := h
  exact fun H locs ls hP hS hz h0 hl => lv_icmp_ne hE.1 hE.2.1 hd ht (fun q => kt q H locs ls hP hS hz h0 hl) (fun q => kf q H locs ls hP hS hz h0 hl)
theorem aw_icmp_lt (hE : ja_G p R s m args meth c D g M d) {x y : Int32} {off : Int} {tgt : Nat} (h : ja_to M.2.1 pc pc' tgt (.if_icmp .lt off) off) (kt : x < y → AW p l e R s m args below meth c Q D g M.2.2.1 tgt loc st X nc ns) (kf : ¬ x < y → AW p l e R s m args below meth c Q D g M.2.2.1 pc' loc st X nc ns) : AW p l e R s m args below meth c Q D g M.2.2.1 pc loc (.int y :: .int x :: st) X nc ns := by
  obtain ⟨hd, rfl, ht⟩ := h
  exact fun H locs ls hP hS hz h0 hl => lv_icmp_lt hE.1 hE.2.1 hd ht (fun q => kt q H locs ls hP hS hz h0 hl) (fun q => kf q H locs ls hP hS hz h0 hl)
theorem aw_icmp_ge (hE : ja_G p R s m args meth c D g M d) {x y : Int32} {off : Int} {tgt : Nat} (h : ja_to M.2.1 pc pc' tgt (.if_icmp .ge off) off) (kt : y ≤ x → AW p l e R s m args below meth c Q D g M.2.2.1 tgt loc st X nc ns) (kf : ¬ y ≤ x → AW p l e R s m args below meth c Q D g M.2.2.1 pc' loc st X nc ns) : AW p l e R s m args below meth c Q D g M.2.2.1 pc loc (.int y :: .int x :: st) X nc ns := by
  obtain ⟨hd, rfl, ht⟩ := h
  exact fun H locs ls hP hS hz h0 hl => lv_icmp_ge hE.1 hE.2.1 hd ht (fun q => kt q H locs ls hP hS hz h0 hl) (fun q => kf q H locs ls hP hS hz h0 hl)
theorem aw_icmp_gt (hE : ja_G p R s m args meth c D g M d) {x y : Int32} {off : Int} {tgt : Nat} (h : ja_to M.2.1 pc pc' tgt (.if_icmp .gt off) off) (kt : y < x → AW p l e R s m args below meth c Q D g M.2.2.1 tgt loc st X nc ns) (kf : ¬ y < x → AW p l e R s m args below meth c Q D g M.2.2.1 pc' loc st X nc ns) : AW p l e R s m args below meth c Q D g M.2.2.1 pc loc (.int y :: .int x :: st) X nc ns := by
  obtain ⟨hd, rfl, ht⟩ := h
  exact fun H locs ls hP hS hz h0 hl => lv_icmp_gt hE.1 hE.2.1 hd ht (fun q => kt q H locs ls hP hS hz h0 hl) (fun q => kf q H locs ls hP hS hz h0 hl)
theorem aw_icmp_le (hE : ja_G p R s m args meth c D g M d) {x y : Int32} {off : Int} {tgt : Nat} (h : ja_to M.2.1 pc pc' tgt (.if_icmp .le off) off) (kt : x ≤ y → AW p l e R s m args below meth c Q D g M.2.2.1 tgt loc st X nc ns) (kf : ¬ x ≤ y → AW p l e R s m args below meth c Q D g M.2.2.1 pc' loc st X nc ns) : AW p l e R s m args below meth c Q D g M.2.2.1 pc loc (.int y :: .int x :: st) X nc ns := by
  obtain ⟨hd, rfl, ht⟩ := h
  exact fun H locs ls hP hS hz h0 hl => lv_icmp_le hE.1 hE.2.1 hd ht (fun q => kt q H locs ls hP hS hz h0 hl) (fun q => kf q H locs ls hP hS hz h0 hl)
theorem aw_goto (hE : ja_G p R s m args meth c D g M d) {off : Int} {tgt : Nat} (h : ja_to M.2.1 pc pc' tgt (.goto off) off) (k : AW p l e R s m args below meth c Q D g M.2.2.1 tgt loc st X nc ns) : AW p l e R s m args below meth c Q D g M.2.2.1 pc loc st X nc ns := by
  obtain ⟨hd, -, ht⟩ := h
  exact fun H locs ls hP hS hz h0 hl => lv_goto hE.1 hE.2.1 hd ht (k H locs ls hP hS hz h0 hl)
theorem aw_tableIn (hE : ja_G p R s m args meth c D g M d) {dflt lo hi : Int} {offs : Array Int} {len : Nat} {x : Int32} {off : Int} {tgt : Nat} (hd : decode M.2.1 pc = .ok (.tableswitch dflt lo hi offs, len)) (h1 : ¬ x.toInt < lo) (h2 : ¬ hi < x.toInt) (ho : offs[(x.toInt - lo).toNat]? = some off) (ht : (pc : Int) + off = (tgt : Int)) (k : AW p l e R s m args below meth c Q D g M.2.2.1 tgt loc st X nc ns) : AW p l e R s m args below meth c Q D g M.2.2.1 pc loc (.int x :: st) X nc ns :=
  fun H locs ls hP hS hz h0 hl => lv_tableIn hE.1 hE.2.1 hd h1 h2 ho ht (k H locs ls hP hS hz h0 hl)
theorem aw_tableOut (hE : ja_G p R s m args meth c D g M d) {dflt lo hi : Int} {offs : Array Int} {len : Nat} {x : Int32} {tgt : Nat} (hd : decode M.2.1 pc = .ok (.tableswitch dflt lo hi offs, len)) (h1 : x.toInt < lo ∨ hi < x.toInt) (ht : (pc : Int) + dflt = (tgt : Int)) (k : AW p l e R s m args below meth c Q D g M.2.2.1 tgt loc st X nc ns) : AW p l e R s m args below meth c Q D g M.2.2.1 pc loc (.int x :: st) X nc ns :=
  fun H locs ls hP hS hz h0 hl => lv_tableOut hE.1 hE.2.1 hd h1 ht (k H locs ls hP hS hz h0 hl)
theorem aw_lookup (hE : ja_G p R s m args meth c D g M d) {dflt : Int} {ps : Array (Int × Int)} {len : Nat} {x : Int32} {off : Int} {tgt : Nat} (hd : decode M.2.1 pc = .ok (.lookupswitch dflt ps, len)) (hp : (ps.toList.zip (ps.toList.drop 1)).all (fun (a, next) => a.1 < next.1) = true) (ho : Op.lookupswitch.offset ps.toList dflt x.toInt = off) (ht : (pc : Int) + off = (tgt : Int)) (k : AW p l e R s m args below meth c Q D g M.2.2.1 tgt loc st X nc ns) : AW p l e R s m args below meth c Q D g M.2.2.1 pc loc (.int x :: st) X nc ns :=
  fun H locs ls hP hS hz h0 hl => lv_lookup hE.1 hE.2.1 hd hp ho ht (k H locs ls hP hS hz h0 hl)
end JROWS
