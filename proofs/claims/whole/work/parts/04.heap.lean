-- fields, arrays, new cells
theorem ja_cl_small : ja_cl.length ≤ 1000 := by decide
theorem ja_set_head (X : ja_H) (k : Nat) (c : ja_C) : (X.set (k + 1) c).head? = X.head? := by cases X <;> rfl
theorem ja_pos_o {X : ja_H} {q ci : Nat} {fs : List Value} {r : vw_C} (h0 : X.head? = some ja_z) (hX : X[q]? = some (.inr (ci, fs))) (hc : ja_cl[ci]? = some r) : ∃ k, q = k + 1 := by
  cases q with
  | succ k => exact ⟨k, rfl⟩
  | zero =>
    rw [List.head?_eq_getElem?] at h0
    rw [h0] at hX
    unfold ja_z at hX
    cases hX
    have h1 : 1000 < ja_cl.length := (List.getElem?_eq_some_iff.mp hc).1
    have h2 := ja_cl_small
    omega
theorem ja_pos_a {X : ja_H} {q : Nat} {x : Nat × vp_A} (h0 : X.head? = some ja_z) (hX : X[q]? = some (.inl x)) : ∃ k, q = k + 1 := by
  cases q with
  | succ k => exact ⟨k, rfl⟩
  | zero =>
    rw [List.head?_eq_getElem?] at h0
    rw [h0] at hX
    unfold ja_z at hX
    cases hX
theorem ja_rf (g : Nat × Nat) (r : Option Nat) : ja_v g (va_rf r) = va_rf (r.map (ja_p g)) := by cases r <;> rfl
/-- a field by its link: of the class ci the field j -/
def ja_fld (own : String) (idx ci j : Nat) : Prop := ∃ (C : String) (T : u_T) (N : Nat), ja_cl[ci]? = some (C, T, N) ∧ (∀ w ∈ u_ws C T N, w ∈ ja_ws) ∧ j < N ∧ (Cond.fieldLink own idx (T j).1 (T j).2.1 (T j).2.2.1 ∈ ja_ws ∨ ∃ host, Cond.fieldLinkNest own idx (T j).1 (T j).2.1 (T j).2.2.1 host ∈ ja_nw)
/-- a class whose fields have types and names of their own -/
def ja_cls (ci : Nat) : Prop := ∃ (C : String) (T : u_T) (N : Nat) (ty0 : Nat → FieldType), ja_cl[ci]? = some (C, T, N) ∧ (∀ k, k < N → parseFieldDescriptor (T k).2.2.1 = some (ty0 k)) ∧ (∀ a, a < N → ∀ b, b < N → a ≠ b → (T a).2.1 ≠ (T b).2.1)
def ja_sto (ci j : Nat) (fin : Bool) (dcl : String) (ty : FieldType) : Prop := ∃ (r : vw_C), ja_cl[ci]? = some r ∧ (r.2.1 j).2.2.2 = fin ∧ (r.2.1 j).1 = dcl ∧ parseFieldDescriptor (r.2.1 j).2.2.1 = some ty
section JHEAP
variable {p : Program} {l : Launch} {e : Env} {R : Room} {s : State} {m : MethodId} {args : Array Value} {below : List Frame} {meth : Method} {c : Code} {Q : State → Prop} {D : va_G} {g : Nat × Nat} {M : ja_M} {d : Nat} {pc pc' : Nat} {loc st : List Value} {X : ja_H} {nc ns : Nat}
theorem aw_getf (hE : ja_G p R s m args meth c D g M d) {idx ci j q : Nat} {fs : List Value} {v : Value} (h : ja_at M.2.1 pc pc' (.getfield idx) 3) (hf : ja_fld M.1.cls idx ci j) (hX : X[q]? = some (.inr (ci, fs))) (hv : fs[j]? = some v) (k : AW p l e R s m args below meth c Q D g M.2.2.1 pc' loc (v :: st) X nc ns) : AW p l e R s m args below meth c Q D g M.2.2.1 pc loc (.ref q :: st) X nc ns := by
  obtain ⟨hd, rfl⟩ := h
  obtain ⟨C, T, N, hc, hin, hj, hl1⟩ := hf
  intro H locs ls hP hS hz h0 hl
  obtain ⟨kq, rfl⟩ := ja_pos_o h0 hX hc
  have he := ja_w_at (D := D) (g := g) hX
  have hv' : (fs.map (ja_v g))[j]? = some (ja_v g v) := by rw [List.getElem?_map, hv]; rfl
  rcases hl1 with hl1 | ⟨host, hl1⟩
  · exact va_get (D := D) (cl := ja_cl) (ws := ja_w D g X) hE.1 hE.2.1 hE.2.2.2.2.1 hin hE.2.2.2.1 hE.2.2.2.2.2.1 hP kq he hc j hj (hE.2.2.2.2.1 _ hl1) (fun _ h9 => h9) hv' hd (k H locs ls hP hS hz h0 hl)
  · exact va_getN (D := D) (cl := ja_cl) (ws := ja_w D g X) hE.1 hE.2.1 hE.2.2.2.2.1 hin hE.2.2.2.1 hE.2.2.2.2.2.1 hP kq he hc j hj (va_Nw.use rfl (hE.2.2.2.2.2.2.1 _ hl1)) (fun _ h9 => h9) hv' hd (k H locs ls hP hS hz h0 hl)
theorem ja_set_o {D : va_G} {g : Nat × Nat} {X : ja_H} {kq ci j : Nat} {fs : List Value} {v : Value} {H : Heap} (h : va_P D ja_cl ((ja_w D g X).set kq (g.2 + kq, .inr (ci, (fs.map (ja_v g)).set j (ja_v g v)))) H) : va_P D ja_cl (ja_w D g (X.set (kq + 1) (.inr (ci, fs.set j v)))) H := by
  rw [← ja_w_set]
  rw [show ja_e D g (.inr (ci, fs.set j v)) = .inr (ci, (fs.map (ja_v g)).set j (ja_v g v)) by simp [ja_e, List.map_set]]
  exact h
theorem aw_putf (hE : ja_G p R s m args meth c D g M d) {idx ci j q : Nat} {fs : List Value} {v : Value} {dcl : String} {ty : FieldType} (h : ja_at M.2.1 pc pc' (.putfield idx) 3) (hf : ja_fld M.1.cls idx ci j) (hk : ja_cls ci) (hs : ja_sto ci j false dcl ty) (hX : X[q]? = some (.inr (ci, fs))) (hl1 : j < fs.length) (hn : narrow ty (ja_v g v) = ja_v g v) (hfit : fits ty (ja_v g v) = true) (k : AW p l e R s m args below meth c Q D g M.2.2.1 pc' loc st (X.set q (.inr (ci, fs.set j v))) nc ns) : AW p l e R s m args below meth c Q D g M.2.2.1 pc loc (v :: .ref q :: st) X nc ns := by
  obtain ⟨hd, rfl⟩ := h
  obtain ⟨C, T, N, hc, hin, hj, hlk⟩ := hf
  obtain ⟨C2, T2, N2, ty0, hc2, hty, hnm⟩ := hk
  obtain ⟨r, hr, hfin, hdcl, hpd⟩ := hs
  cases hc.symm.trans hc2
  cases hc.symm.trans hr
  intro H locs ls hP hS hz h0 hl
  obtain ⟨kq, rfl⟩ := ja_pos_o h0 hX hc
  have he := ja_w_at (D := D) (g := g) hX
  rcases hlk with hl2 | ⟨host, hl2⟩
  · exact va_put (D := D) (cl := ja_cl) (ws := ja_w D g X) (A := fun q => g.2 ≤ q) (v := ja_v g v) hE.1 hE.2.1 hE.2.2.2.2.1 hin ty0 hty hnm hE.2.2.2.1 hE.2.2.2.2.2.1 hP (ja_w_D D g X) hS kq he hc j hj (hE.2.2.2.2.1 _ hl2) (fun _ h9 => h9) hfin hpd hn hfit (by rw [List.length_map]; exact hl1) hd
      (fun H1 locs1 hP1 _ hS1 => k H1 locs1 ls (ja_set_o hP1) hS1 (by rw [List.length_set]; exact hz) (by rw [ja_set_head]; exact h0) hl)
  · exact va_putN (D := D) (cl := ja_cl) (ws := ja_w D g X) (A := fun q => g.2 ≤ q) (v := ja_v g v) hE.1 hE.2.1 hE.2.2.2.2.1 hin ty0 hty hnm hE.2.2.2.1 hE.2.2.2.2.2.1 hP (ja_w_D D g X) hS kq he hc j hj (va_Nw.use rfl (hE.2.2.2.2.2.2.1 _ hl2)) (fun _ h9 => h9) hfin hpd hn hfit (by rw [List.length_map]; exact hl1) hd
      (fun H1 locs1 hP1 _ hS1 => k H1 locs1 ls (ja_set_o hP1) hS1 (by rw [List.length_set]; exact hz) (by rw [ja_set_head]; exact h0) hl)
/-- a final field, in a constructor -/
theorem aw_putF (hE : ja_G p R s m args meth c D g M d) {idx ci j q : Nat} {fs : List Value} {v : Value} {ty : FieldType} (h : ja_at M.2.1 pc pc' (.putfield idx) 3) (hlk : ∃ r : vw_C, ja_cl[ci]? = some r ∧ (∀ w ∈ u_ws r.1 r.2.1 r.2.2, w ∈ ja_ws) ∧ j < r.2.2 ∧ Cond.fieldLink M.1.cls idx (r.2.1 j).1 (r.2.1 j).2.1 (r.2.1 j).2.2.1 ∈ ja_ws) (hk : ja_cls ci) (hs : ja_sto ci j true M.1.cls ty) (hi : M.1.name = "<init>") (hX : X[q]? = some (.inr (ci, fs))) (hl1 : j < fs.length) (hn : narrow ty (ja_v g v) = ja_v g v) (hfit : fits ty (ja_v g v) = true) (k : AW p l e R s m args below meth c Q D g M.2.2.1 pc' loc st (X.set q (.inr (ci, fs.set j v))) nc ns) : AW p l e R s m args below meth c Q D g M.2.2.1 pc loc (v :: .ref q :: st) X nc ns := by
  obtain ⟨hd, rfl⟩ := h
  obtain ⟨⟨C, T, N⟩, hc, hin, hj, hl2⟩ := hlk
  obtain ⟨C2, T2, N2, ty0, hc2, hty, hnm⟩ := hk
  obtain ⟨r, hr, hfin, hdcl, hpd⟩ := hs
  cases hc.symm.trans hc2
  cases hc.symm.trans hr
  intro H locs ls hP hS hz h0 hl
  obtain ⟨kq, rfl⟩ := ja_pos_o h0 hX hc
  have he := ja_w_at (D := D) (g := g) hX
  exact va_putF (D := D) (cl := ja_cl) (ws := ja_w D g X) (A := fun q => g.2 ≤ q) (v := ja_v g v) hE.1 hE.2.1 hE.2.2.2.2.1 hin ty0 hty hnm hE.2.2.2.1 hE.2.2.2.2.2.1 hP (ja_w_D D g X) hS kq he hc j hj (hE.2.2.2.2.1 _ hl2) (fun _ h9 => h9) hfin (hE.2.2.2.2.2.2.2.2.2.1.trans hi) hdcl hpd hn hfit (by rw [List.length_map]; exact hl1) hd
      (fun H1 locs1 hP1 _ hS1 => k H1 locs1 ls (ja_set_o hP1) hS1 (by rw [List.length_set]; exact hz) (by rw [ja_set_head]; exact h0) hl)
theorem aw_iald (hE : ja_G p R s m args meth c D g M d) {q t n : Nat} {f : Nat → Int32} {i : Int32} (h : ja_at M.2.1 pc pc' .iaload 1) (hX : X[q]? = some (.inl (t, n, .inl f))) (ht : ja_ty[t]? = some .int) (hin : vp_in i n) (k : AW p l e R s m args below meth c Q D g M.2.2.1 pc' loc (.int (f i.toNatClampNeg) :: st) X nc ns) : AW p l e R s m args below meth c Q D g M.2.2.1 pc loc (.int i :: .ref q :: st) X nc ns := by
  obtain ⟨hd, rfl⟩ := h
  intro H locs ls hP hS hz h0 hl
  obtain ⟨kq, rfl⟩ := ja_pos_a h0 hX
  exact va_iald (D := D) (cl := ja_cl) (ws := ja_w D g X) hE.1 hE.2.1 hE.2.2.2.2.2.1 hP kq t (ja_w_at (D := D) (g := g) hX) (ja_t_at D ht) hin hd (k H locs ls hP hS hz h0 hl)
theorem aw_zald (hE : ja_G p R s m args meth c D g M d) {q t n : Nat} {f : Nat → Int32} {i : Int32} (h : ja_at M.2.1 pc pc' .baload 1) (hX : X[q]? = some (.inl (t, n, .inl f))) (ht : ja_ty[t]? = some .boolean) (hin : vp_in i n) (k : AW p l e R s m args below meth c Q D g M.2.2.1 pc' loc (.int (f i.toNatClampNeg) :: st) X nc ns) : AW p l e R s m args below meth c Q D g M.2.2.1 pc loc (.int i :: .ref q :: st) X nc ns := by
  obtain ⟨hd, rfl⟩ := h
  intro H locs ls hP hS hz h0 hl
  obtain ⟨kq, rfl⟩ := ja_pos_a h0 hX
  exact va_zald (D := D) (cl := ja_cl) (ws := ja_w D g X) hE.1 hE.2.1 hE.2.2.2.2.2.1 hP kq t (ja_w_at (D := D) (g := g) hX) (ja_t_at D ht) hin hd (k H locs ls hP hS hz h0 hl)
theorem aw_bald (hE : ja_G p R s m args meth c D g M d) {q t n : Nat} {f : Nat → Int32} {i : Int32} (h : ja_at M.2.1 pc pc' .baload 1) (hX : X[q]? = some (.inl (t, n, .inl f))) (ht : ja_ty[t]? = some .byte) (hin : vp_in i n) (k : AW p l e R s m args below meth c Q D g M.2.2.1 pc' loc (.int (f i.toNatClampNeg) :: st) X nc ns) : AW p l e R s m args below meth c Q D g M.2.2.1 pc loc (.int i :: .ref q :: st) X nc ns := by
  obtain ⟨hd, rfl⟩ := h
  intro H locs ls hP hS hz h0 hl
  obtain ⟨kq, rfl⟩ := ja_pos_a h0 hX
  exact va_bald (D := D) (cl := ja_cl) (ws := ja_w D g X) hE.1 hE.2.1 hE.2.2.2.2.2.1 hP kq t (ja_w_at (D := D) (g := g) hX) (ja_t_at D ht) hin hd (k H locs ls hP hS hz h0 hl)
theorem aw_lald (hE : ja_G p R s m args meth c D g M d) {q t n : Nat} {f : Nat → Int64} {i : Int32} (h : ja_at M.2.1 pc pc' .laload 1) (hX : X[q]? = some (.inl (t, n, .inr (.inl f)))) (ht : ja_ty[t]? = some .long) (hin : vp_in i n) (k : AW p l e R s m args below meth c Q D g M.2.2.1 pc' loc (.long (f i.toNatClampNeg) :: st) X nc ns) : AW p l e R s m args below meth c Q D g M.2.2.1 pc loc (.int i :: .ref q :: st) X nc ns := by
  obtain ⟨hd, rfl⟩ := h
  intro H locs ls hP hS hz h0 hl
  obtain ⟨kq, rfl⟩ := ja_pos_a h0 hX
  exact va_lald (D := D) (cl := ja_cl) (ws := ja_w D g X) hE.1 hE.2.1 hE.2.2.2.2.2.1 hP kq t (ja_w_at (D := D) (g := g) hX) (ja_t_at D ht) hin hd (k H locs ls hP hS hz h0 hl)
theorem aw_iast (hE : ja_G p R s m args meth c D g M d) {q t n : Nat} {f : Nat → Int32} {i : Int32} {x : Int32} (h : ja_at M.2.1 pc pc' .iastore 1) (hX : X[q]? = some (.inl (t, n, .inl f))) (ht : ja_ty[t]? = some .int) (hin : vp_in i n) (k : AW p l e R s m args below meth c Q D g M.2.2.1 pc' loc st (X.set q (.inl (t, n, .inl (upd f i.toNatClampNeg x)))) nc ns) : AW p l e R s m args below meth c Q D g M.2.2.1 pc loc (.int x :: .int i :: .ref q :: st) X nc ns := by
  obtain ⟨hd, rfl⟩ := h
  intro H locs ls hP hS hz h0 hl
  obtain ⟨kq, rfl⟩ := ja_pos_a h0 hX
  exact va_iast (D := D) (cl := ja_cl) (ws := ja_w D g X) (A := fun q => g.2 ≤ q) hE.1 hE.2.1 hE.2.2.2.2.2.1 hP (ja_w_D D g X) hS kq t (ja_w_at (D := D) (g := g) hX) (ja_t_at D ht) hin hd
    (fun H1 locs1 hP1 _ hS1 => k H1 locs1 ls (by rw [← ja_w_set]; exact hP1) hS1 (by rw [List.length_set]; exact hz) (by rw [ja_set_head]; exact h0) hl)
theorem aw_zast (hE : ja_G p R s m args meth c D g M d) {q t n : Nat} {f : Nat → Int32} {i : Int32} {x : Int32} (h : ja_at M.2.1 pc pc' .bastore 1) (hX : X[q]? = some (.inl (t, n, .inl f))) (ht : ja_ty[t]? = some .boolean) (hin : vp_in i n) (k : AW p l e R s m args below meth c Q D g M.2.2.1 pc' loc st (X.set q (.inl (t, n, .inl (upd f i.toNatClampNeg (vp_nar .boolean x))))) nc ns) : AW p l e R s m args below meth c Q D g M.2.2.1 pc loc (.int x :: .int i :: .ref q :: st) X nc ns := by
  obtain ⟨hd, rfl⟩ := h
  intro H locs ls hP hS hz h0 hl
  obtain ⟨kq, rfl⟩ := ja_pos_a h0 hX
  exact va_zast (D := D) (cl := ja_cl) (ws := ja_w D g X) (A := fun q => g.2 ≤ q) hE.1 hE.2.1 hE.2.2.2.2.2.1 hP (ja_w_D D g X) hS kq t (ja_w_at (D := D) (g := g) hX) (ja_t_at D ht) hin hd
    (fun H1 locs1 hP1 _ hS1 => k H1 locs1 ls (by rw [← ja_w_set]; exact hP1) hS1 (by rw [List.length_set]; exact hz) (by rw [ja_set_head]; exact h0) hl)
theorem aw_bast (hE : ja_G p R s m args meth c D g M d) {q t n : Nat} {f : Nat → Int32} {i : Int32} {x : Int32} (h : ja_at M.2.1 pc pc' .bastore 1) (hX : X[q]? = some (.inl (t, n, .inl f))) (ht : ja_ty[t]? = some .byte) (hin : vp_in i n) (k : AW p l e R s m args below meth c Q D g M.2.2.1 pc' loc st (X.set q (.inl (t, n, .inl (upd f i.toNatClampNeg (vp_nar .byte x))))) nc ns) : AW p l e R s m args below meth c Q D g M.2.2.1 pc loc (.int x :: .int i :: .ref q :: st) X nc ns := by
  obtain ⟨hd, rfl⟩ := h
  intro H locs ls hP hS hz h0 hl
  obtain ⟨kq, rfl⟩ := ja_pos_a h0 hX
  exact va_bast (D := D) (cl := ja_cl) (ws := ja_w D g X) (A := fun q => g.2 ≤ q) hE.1 hE.2.1 hE.2.2.2.2.2.1 hP (ja_w_D D g X) hS kq t (ja_w_at (D := D) (g := g) hX) (ja_t_at D ht) hin hd
    (fun H1 locs1 hP1 _ hS1 => k H1 locs1 ls (by rw [← ja_w_set]; exact hP1) hS1 (by rw [List.length_set]; exact hz) (by rw [ja_set_head]; exact h0) hl)
theorem aw_last (hE : ja_G p R s m args meth c D g M d) {q t n : Nat} {f : Nat → Int64} {i : Int32} {x : Int64} (h : ja_at M.2.1 pc pc' .lastore 1) (hX : X[q]? = some (.inl (t, n, .inr (.inl f)))) (ht : ja_ty[t]? = some .long) (hin : vp_in i n) (k : AW p l e R s m args below meth c Q D g M.2.2.1 pc' loc st (X.set q (.inl (t, n, .inr (.inl (vp_updL f i.toNatClampNeg x))))) nc ns) : AW p l e R s m args below meth c Q D g M.2.2.1 pc loc (.long x :: .int i :: .ref q :: st) X nc ns := by
  obtain ⟨hd, rfl⟩ := h
  intro H locs ls hP hS hz h0 hl
  obtain ⟨kq, rfl⟩ := ja_pos_a h0 hX
  exact va_last (D := D) (cl := ja_cl) (ws := ja_w D g X) (A := fun q => g.2 ≤ q) hE.1 hE.2.1 hE.2.2.2.2.2.1 hP (ja_w_D D g X) hS kq t (ja_w_at (D := D) (g := g) hX) (ja_t_at D ht) hin hd
    (fun H1 locs1 hP1 _ hS1 => k H1 locs1 ls (by rw [← ja_w_set]; exact hP1) hS1 (by rw [List.length_set]; exact hz) (by rw [ja_set_head]; exact h0) hl)
theorem aw_aald (hE : ja_G p R s m args meth c D g M d) {q t n : Nat} {ty : FieldType} {f : Nat → Option Nat} {i : Int32} (h : ja_at M.2.1 pc pc' .aaload 1) (hX : X[q]? = some (.inl (t, n, .inr (.inr (.inr (.inr f)))))) (ht : ja_ty[t]? = some ty) (hrt : ty.isReference = true) (hin : vp_in i n) (k : AW p l e R s m args below meth c Q D g M.2.2.1 pc' loc (va_rf (f i.toNatClampNeg) :: st) X nc ns) : AW p l e R s m args below meth c Q D g M.2.2.1 pc loc (.int i :: .ref q :: st) X nc ns := by
  obtain ⟨hd, rfl⟩ := h
  intro H locs ls hP hS hz h0 hl
  obtain ⟨kq, rfl⟩ := ja_pos_a h0 hX
  have hlt : i.toNatClampNeg < n := Nat.not_le.mp fun q => hin (Or.inr q)
  have kk := k H locs ls hP hS hz h0 hl
  rw [List.map_cons, ja_rf] at kk
  exact W.aald (v := va_rf ((f i.toNatClampNeg).map (ja_p g))) (ty := ty) hE.1 hE.2.1 (hP kq _ (ja_w_at (D := D) (g := g) hX)) ((hE.2.2.2.2.2.1.2 t _ (ja_t_at D ht)).1 n (fun j => va_rf ((f j).map (ja_p g)))) hrt (fun q => by cases q) (by show ¬ (i < 0 ∨ (arrV _ _ _).slots.size ≤ _); rw [arrV_size]; exact hin) (arrV_read (D.1 (100 + t)) (fun j => va_rf ((f j).map (ja_p g))) hlt) rfl rfl hd kk
theorem aw_aast (hE : ja_G p R s m args meth c D g M d) {q t n v ci : Nat} {r : vw_C} {vs : List Value} {f : Nat → Option Nat} {i : Int32} (h : ja_at M.2.1 pc pc' .aastore 1) (hX : X[q]? = some (.inl (t, n, .inr (.inr (.inr (.inr f)))))) (ht : ja_ty[t]? = some (.object r.1)) (hV : X[v]? = some (.inr (ci, vs))) (hc : ja_cl[ci]? = some r) (hin : vp_in i n) (k : AW p l e R s m args below meth c Q D g M.2.2.1 pc' loc st (X.set q (.inl (t, n, .inr (.inr (.inr (.inr (va_up f i.toNatClampNeg (some v)))))))) nc ns) : AW p l e R s m args below meth c Q D g M.2.2.1 pc loc (.ref v :: .int i :: .ref q :: st) X nc ns := by
  obtain ⟨hd, rfl⟩ := h
  intro H locs ls hP hS hz h0 hl
  obtain ⟨kq, rfl⟩ := ja_pos_a h0 hX
  obtain ⟨kv, rfl⟩ := ja_pos_o h0 hV hc
  refine va_astq (D := D) (cl := ja_cl) (ws := ja_w D g X) (A := fun q => g.2 ≤ q) hE.1 hE.2.1 hE.2.2.2.2.2.1 hP (ja_w_D D g X) hS kq t kv ci (ja_w_at (D := D) (g := g) hX) (ja_t_at D ht) (ja_w_at (D := D) (g := g) hV) hc hin hd
    (fun H1 locs1 hP1 _ hS1 => k H1 locs1 ls ?_ hS1 (by rw [List.length_set]; exact hz) (by rw [ja_set_head]; exact h0) hl)
  rw [← ja_w_set]
  have he : ja_e D g (.inl (t, n, .inr (.inr (.inr (.inr (va_up f i.toNatClampNeg (some (kv + 1)))))))) = .inl (D.1 (100 + t), n, .inr (.inr (.inr (.inr (va_up (fun j => (f j).map (ja_p g)) i.toNatClampNeg (some (g.2 + kv))))))) := by
    simp only [ja_e, ja_a]
    congr 7
    funext j
    by_cases hj : j = i.toNatClampNeg
    · subst hj; simp [va_up, ja_p]
    · simp [va_up, hj]
  rw [he]
  exact hP1
theorem aw_alen (hE : ja_G p R s m args meth c D g M d) {q t : Nat} {x : vp_A} {ty : FieldType} {v : Int32} (h : ja_at M.2.1 pc pc' .arraylength 1) (hX : X[q]? = some (.inl (t, x))) (ht : ja_ty[t]? = some ty) (hv : Int32.ofNat x.1 = v) (k : AW p l e R s m args below meth c Q D g M.2.2.1 pc' loc (.int v :: st) X nc ns) : AW p l e R s m args below meth c Q D g M.2.2.1 pc loc (.ref q :: st) X nc ns := by
  obtain ⟨hd, rfl⟩ := h
  intro H locs ls hP hS hz h0 hl
  obtain ⟨kq, rfl⟩ := ja_pos_a h0 hX
  exact va_alen (D := D) (cl := ja_cl) (ws := ja_w D g X) (x := ja_a g x) hE.1 hE.2.1 hE.2.2.2.2.2.1 hP kq t (ja_w_at (D := D) (g := g) hX) (ja_t_at D ht) hv hd (k H locs ls hP hS hz h0 hl)
/-- the place of a new cell: the heap is as large as the places say -/
theorem ja_new_at {q nc' : Nat} {E : va_E} {H1 : Heap} (hP : va_P D ja_cl (ja_w D g X ++ [(q, E)]) H1) (hD : va_D (fun q => g.2 ≤ q) (ja_w D g X ++ [(q, E)])) (hz : g.2 + X.length = s.heap.size + nc + 1) (hH : H1.size ≤ s.heap.size + nc') (hn : nc' = nc + 1) {n : Nat} (hX : X.length = n + 1) : q = g.2 + n := by
  have hlen : (ja_w D g X).length = n := by simp [ja_w, hX]
  have hat : (ja_w D g X ++ [(q, E)])[n]? = some (q, E) := by
    rw [List.getElem?_append_right (by omega), hlen]; simp
  have h1 : q < H1.size := (hP n _ hat).lt
  have h2 : g.2 ≤ q := hD.2 n _ hat
  have h3 : ¬ q < g.2 + n := by
    intro hq
    have hj : q - g.2 < n := by omega
    have hj1 : q - g.2 + 1 < X.length := by omega
    have hg : (ja_w D g X)[q - g.2]? = some (g.2 + (q - g.2), ja_e D g X[q - g.2 + 1]) := ja_w_at (List.getElem?_eq_getElem hj1)
    have hg2 : (ja_w D g X ++ [(q, E)])[q - g.2]? = some (g.2 + (q - g.2), ja_e D g X[q - g.2 + 1]) := by
      rw [List.getElem?_append_left (by omega)]; exact hg
    have := hD.1 _ _ _ _ hg2 hat (by simp only; omega)
    omega
  omega
theorem aw_newa (hE : ja_G p R s m args meth c D g M d) {atype : ArrayType} {t N' : Nat} {ty : FieldType} {n : Int32} {a0 : vp_A} (h : ja_at M.2.1 pc pc' (.newarray atype) 2) (hty : newarray.typeOf atype = ty) (ht : ja_ty[t]? = some ty) (hw : Cond.arrayClass ty ∈ ja_ws) (ha : ∀ cA : ClassId, vp_cell cA (ja_a g a0) = arrV cA N' (fun _ => defaultValue ty)) (hn : ¬ n < 0) (hN : n.toNatClampNeg = N') (hb : N' * componentBytes ty ≤ 536870912) (hc : nc + 1 ≤ R.cells) (hs : ns + N' ≤ R.slots)
    (k : AW p l e R s m args below meth c Q D g M.2.2.1 pc' loc (.ref X.length :: st) (X ++ [.inl (t, a0)]) (nc + 1) (ns + N')) : AW p l e R s m args below meth c Q D g M.2.2.1 pc loc (.int n :: st) X nc ns := by
  obtain ⟨hd, rfl⟩ := h
  intro H locs ls hP hS hz h0 hl
  obtain ⟨x0, hx0⟩ : ∃ x0, X.length = x0 + 1 := by cases X with | nil => cases h0 | cons a b => exact ⟨b.length, rfl⟩
  refine va_newa (D := D) (cl := ja_cl) (ws := ja_w D g X) (A := fun q => g.2 ≤ q) hE.1 hE.2.1 (by rw [hty]; exact hE.2.2.2.2.1 _ hw) hty hE.2.2.2.2.2.1 hP (ja_w_D D g X) hS (fun q hq => Nat.le_trans hE.2.2.2.2.2.2.2.2.2.2.2.2.2 hq) ha hn hN hb hc hs hd (fun q cA H1 hK1 hP1 hD1 hS1 => ?_)
  intro T hT XX
  have hH : H1.size ≤ s.heap.size + (nc + 1) := by
    have := XX.same.2.2.1
    rw [← hT]
    exact this
  have hq := ja_new_at (nc := nc) hP1 hD1 hz hH rfl hx0
  subst hq
  have hcA : cA = D.1 (100 + t) := by
    have h1 := (hE.2.2.2.2.2.1.2 t _ (ja_t_at D ht)).2
    have h2 := (hK1.2 (ja_t D).length (cA, ty) (by simp)).2
    subst hty
    cases atype <;> exact Option.some.inj (h2.symm.trans h1)
  subst hcA
  have hP2 : va_P D ja_cl (ja_w D g (X ++ [.inl (t, a0)])) H1 := by
    rw [← ja_w_push D g X _ hx0]; exact hP1
  have hst : ((Value.ref X.length :: st).map (ja_v g)) = .ref (g.2 + x0) :: st.map (ja_v g) := by rw [hx0]; rfl
  have kk := k H1 locs ls hP2 hS1 (by simp only [List.length_append, List.length_cons, List.length_nil]; omega) (by cases X with | nil => cases h0 | cons a b => exact h0) hl
  rw [hst] at kk
  exact kk T hT XX
theorem aw_new (hE : ja_G p R s m args meth c D g M d) {ci idx N : Nat} {C : String} {T : u_T} {fs : List Value} (h : ja_at M.2.1 pc pc' (.new idx) 3) (hcl : ja_cl[ci]? = some (C, T, N)) (hin : ∀ w ∈ u_ws C T N, w ∈ ja_ws) (ty : Nat → FieldType) (hty : ∀ k, k < N → parseFieldDescriptor (T k).2.2.1 = some (ty k)) (hw1 : Cond.classLink M.1.cls idx C ∈ ja_ws) (hw2 : Cond.instantiable C N ∈ ja_ws) (hw3 : Cond.initialized C ∈ ja_ws) (hfs : ∀ j, j < N → defaultValue (ty j) = vp_V (fs.map (ja_v g)) j) (hc : nc + 1 ≤ R.cells) (hs : ns + N ≤ R.slots)
    (k : AW p l e R s m args below meth c Q D g M.2.2.1 pc' loc (.ref X.length :: st) (X ++ [.inr (ci, fs)]) (nc + 1) (ns + N)) : AW p l e R s m args below meth c Q D g M.2.2.1 pc loc st X nc ns := by
  obtain ⟨hd, rfl⟩ := h
  intro H locs ls hP hS hz h0 hl
  obtain ⟨x0, hx0⟩ : ∃ x0, X.length = x0 + 1 := by cases X with | nil => cases h0 | cons a b => exact ⟨b.length, rfl⟩
  refine va_new (D := D) (cl := ja_cl) (ci := ci) (fs := fs.map (ja_v g)) (ws := ja_w D g X) (A := fun q => g.2 ≤ q) hE.1 hE.2.1 hE.2.2.2.2.1 hin ty hty hE.2.2.2.1 (hE.2.2.2.2.1 _ hw1) (hE.2.2.2.2.1 _ hw2) (hE.2.2.2.2.1 _ hw3) hE.2.2.2.2.2.1 hP (ja_w_D D g X) hS (fun q hq => Nat.le_trans hE.2.2.2.2.2.2.2.2.2.2.2.2.2 hq) hcl hfs hc hs hd (fun q H1 hP1 hD1 hS1 => ?_)
  intro T hT XX
  have hH : H1.size ≤ s.heap.size + (nc + 1) := by
    have := XX.same.2.2.1
    rw [← hT]
    exact this
  have hq := ja_new_at (nc := nc) hP1 hD1 hz hH rfl hx0
  subst hq
  have hP2 : va_P D ja_cl (ja_w D g (X ++ [.inr (ci, fs)])) H1 := by
    rw [← ja_w_push D g X _ hx0]; exact hP1
  have hst : ((Value.ref X.length :: st).map (ja_v g)) = .ref (g.2 + x0) :: st.map (ja_v g) := by rw [hx0]; rfl
  have kk := k H1 locs ls hP2 hS1 (by simp only [List.length_append, List.length_cons, List.length_nil]; omega) (by cases X with | nil => cases h0 | cons a b => exact h0) hl
  rw [hst] at kk
  exact kk T hT XX
theorem aw_newq (hE : ja_G p R s m args meth c D g M d) {t idx N' : Nat} {C : String} {n : Int32} (h : ja_at M.2.1 pc pc' (.anewarray idx) 3) (ht : ja_ty[t]? = some (.object C)) (hw1 : Cond.classLink M.1.cls idx C ∈ ja_ws) (hw2 : C ∈ ja_ao) (hn : ¬ n < 0) (hN : n.toNatClampNeg = N') (hb : N' * 4 ≤ 536870912) (hc : nc + 1 ≤ R.cells) (hs : ns + N' ≤ R.slots)
    (k : AW p l e R s m args below meth c Q D g M.2.2.1 pc' loc (.ref X.length :: st) (X ++ [.inl (t, N', .inr (.inr (.inr (.inr (fun _ => none)))))]) (nc + 1) (ns + N')) : AW p l e R s m args below meth c Q D g M.2.2.1 pc loc (.int n :: st) X nc ns := by
  obtain ⟨hd, rfl⟩ := h
  intro H locs ls hP hS hz h0 hl
  obtain ⟨x0, hx0⟩ : ∃ x0, X.length = x0 + 1 := by cases X with | nil => cases h0 | cons a b => exact ⟨b.length, rfl⟩
  refine va_newq (D := D) (cl := ja_cl) (ws := ja_w D g X) (A := fun q => g.2 ≤ q) hE.1 hE.2.1 hE.2.2.2.1 (hE.2.2.2.2.1 _ hw1) (hE.2.2.2.2.2.2.2.2.2.2.2.2.1 C hw2).1 hE.2.2.2.2.2.1 hP (ja_w_D D g X) hS (fun q hq => Nat.le_trans hE.2.2.2.2.2.2.2.2.2.2.2.2.2 hq) hn hN hb hc hs hd (fun q cA H1 hK1 hP1 hD1 hS1 => ?_)
  intro T hT XX
  have hH : H1.size ≤ s.heap.size + (nc + 1) := by
    have := XX.same.2.2.1
    rw [← hT]
    exact this
  have hq := ja_new_at (nc := nc) hP1 hD1 hz hH rfl hx0
  subst hq
  have hcA : cA = D.1 (100 + t) := by
    obtain ⟨_, _, _, _, _, h1⟩ := (hE.2.2.2.2.2.1.2 t _ (ja_t_at D ht)).2
    obtain ⟨_, _, _, _, _, h2⟩ := (hK1.2 (ja_t D).length (cA, .object C) (by simp)).2
    exact Option.some.inj (h2.symm.trans h1)
  subst hcA
  have hP2 : va_P D ja_cl (ja_w D g (X ++ [.inl (t, N', .inr (.inr (.inr (.inr (fun _ => none)))))])) H1 := by
    rw [← ja_w_push D g X _ hx0]; exact hP1
  have hst : ((Value.ref X.length :: st).map (ja_v g)) = .ref (g.2 + x0) :: st.map (ja_v g) := by rw [hx0]; rfl
  have kk := k H1 locs ls hP2 hS1 (by simp only [List.length_append, List.length_cons, List.length_nil]; omega) (by cases X with | nil => cases h0 | cons a b => exact h0) hl
  rw [hst] at kk
  exact kk T hT XX
end JHEAP
