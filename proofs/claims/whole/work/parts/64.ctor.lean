-- constructors: rows over a heap A ++ (object :: cells behind it)
section JKX
variable {l : Launch} {D : va_G} {g : Nat × Nat} {M : ja_M} {d cm sm : Nat} {K : ja_K} {pc pc' : Nat} {loc st : List Value} {A B : ja_H} {c0 : ja_C} {q b nc ns : Nat}
theorem jx_len (hA : A.length = q) (hb : B.length = b) : (A ++ (c0 :: B)).length = q + 1 + b := by simp [hA, hb]; omega
theorem jx_at (hA : A.length = q) : (A ++ (c0 :: B))[q]? = some c0 := by subst hA; simp
theorem jx_set {c1 : ja_C} (hA : A.length = q) : (A ++ (c0 :: B)).set q c1 = A ++ (c1 :: B) := by subst hA; simp
theorem jx_atB (hA : A.length = q) (i : Nat) : (A ++ (c0 :: B))[q + 1 + i]? = B[i]? := by
  subst hA
  rw [List.getElem?_append_right (by omega), show A.length + 1 + i - A.length = i + 1 by omega]
  rfl
theorem jx_setB {c1 : ja_C} (hA : A.length = q) (i : Nat) : (A ++ (c0 :: B)).set (q + 1 + i) c1 = A ++ (c0 :: B.set i c1) := by
  subst hA
  rw [List.set_append_right _ _ (by omega), show A.length + 1 + i - A.length = i + 1 by omega]
  rfl
theorem kx_newa (hB : ja_B l D g M d cm sm K) (hA : A.length = q) (hb : B.length = b) {atype : ArrayType} {t N' : Nat} {ty : FieldType} {n : Int32} {a0 : vp_A} (h : ja_at M.2.1 pc pc' (.newarray atype) 2) (hty : newarray.typeOf atype = ty) (ht : ja_ty[t]? = some ty) (hw : Cond.arrayClass ty ∈ ja_ws) (ha : ∀ cA : ClassId, vp_cell cA (ja_a g a0) = arrV cA N' (fun _ => defaultValue ty)) (hn : ¬ n < 0) (hN : n.toNatClampNeg = N') (hb' : N' * componentBytes ty ≤ 536870912) (hc : nc + 1 ≤ cm) (hs : ns + N' ≤ sm)
    (k : K pc' loc (.ref (q + 1 + b) :: st) (A ++ (c0 :: (B ++ [.inl (t, a0)]))) (nc + 1) (ns + N')) : K pc loc (.int n :: st) (A ++ (c0 :: B)) nc ns := by
  refine kw_newa hB h hty ht hw ha hn hN hb' hc hs ?_
  rw [jx_len hA hb, List.append_assoc]
  exact k
theorem kx_newq (hB : ja_B l D g M d cm sm K) (hA : A.length = q) (hb : B.length = b) {t idx N' : Nat} {C : String} {n : Int32} (h : ja_at M.2.1 pc pc' (.anewarray idx) 3) (ht : ja_ty[t]? = some (.object C)) (hw1 : Cond.classLink M.1.cls idx C ∈ ja_ws) (hw2 : C ∈ ja_ao) (hn : ¬ n < 0) (hN : n.toNatClampNeg = N') (hb' : N' * 4 ≤ 536870912) (hc : nc + 1 ≤ cm) (hs : ns + N' ≤ sm)
    (k : K pc' loc (.ref (q + 1 + b) :: st) (A ++ (c0 :: (B ++ [.inl (t, N', .inr (.inr (.inr (.inr (fun _ => none)))))]))) (nc + 1) (ns + N')) : K pc loc (.int n :: st) (A ++ (c0 :: B)) nc ns := by
  refine kw_newq hB h ht hw1 hw2 hn hN hb' hc hs ?_
  rw [jx_len hA hb, List.append_assoc]
  exact k
theorem kx_mna (hB : ja_B l D g M d cm sm K) (hA : A.length = q) (hb : B.length = b) {idx N' K' : Nat} {n k : Int32} (h : ja_at M.2.1 pc pc' (.multianewarray idx 2) 4) (hw1 : Cond.classLink M.1.cls idx "[[I" ∈ ja_ws) (hw2 : Cond.arrayClass .int ∈ ja_ws) (hn : ¬ n < 0) (hk : ¬ k < 0) (hN : n.toNatClampNeg = N') (hM : k.toNatClampNeg = K') (hb1 : N' * 4 ≤ 536870912) (hb2 : K' * 4 ≤ 536870912) (hc : nc + (1 + N') ≤ cm) (hs : ns + (N' + N' * K') ≤ sm)
    (kk : K pc' loc (.ref (q + 1 + b) :: st) (A ++ (c0 :: (B ++ (.inl (5, N', .inr (.inr (.inr (.inr (fun i => if i < N' then some (q + 1 + b + 1 + i) else none))))) :: List.replicate N' (.inl (0, K', .inl (fun _ => 0))))))) (nc + 1 + N') (ns + N' + N' * K')) : K pc loc (.int k :: .int n :: st) (A ++ (c0 :: B)) nc ns := by
  refine kw_mna hB h hw1 hw2 hn hk hN hM hb1 hb2 hc hs ?_
  rw [jx_len hA hb, List.append_assoc, List.append_assoc]
  exact kk
theorem kx_new (hB : ja_B l D g M d cm sm K) (hA : A.length = q) (hb : B.length = b) {ci idx N : Nat} {C : String} {T : u_T} {fs : List Value} (h : ja_at M.2.1 pc pc' (.new idx) 3) (hcl : ja_cl[ci]? = some (C, T, N)) (hin : ∀ w ∈ u_ws C T N, w ∈ ja_ws) (ty : Nat → FieldType) (hty : ∀ k, k < N → parseFieldDescriptor (T k).2.2.1 = some (ty k)) (hw1 : Cond.classLink M.1.cls idx C ∈ ja_ws) (hw2 : Cond.instantiable C N ∈ ja_ws) (hw3 : Cond.initialized C ∈ ja_ws) (hfg : ∀ g : Nat × Nat, fs.map (ja_v g) = fs) (hfs : ∀ j, j < N → defaultValue (ty j) = vp_V fs j) (hc : nc + 1 ≤ cm) (hs : ns + N ≤ sm)
    (k : K pc' loc (.ref (q + 1 + b) :: st) (A ++ (c0 :: (B ++ [.inr (ci, fs)]))) (nc + 1) (ns + N)) : K pc loc st (A ++ (c0 :: B)) nc ns := by
  refine kw_new hB h hcl hin ty hty hw1 hw2 hw3 (by rw [hfg]; exact hfs) hc hs ?_
  rw [jx_len hA hb, List.append_assoc]
  exact k
theorem kx_putF (hB : ja_B l D g M d cm sm K) (hA : A.length = q) {idx ci j : Nat} {fs : List Value} {v : Value} {ty : FieldType} (h : ja_at M.2.1 pc pc' (.putfield idx) 3) (hlk : ∃ r : vw_C, ja_cl[ci]? = some r ∧ (∀ w ∈ u_ws r.1 r.2.1 r.2.2, w ∈ ja_ws) ∧ j < r.2.2 ∧ Cond.fieldLink M.1.cls idx (r.2.1 j).1 (r.2.1 j).2.1 (r.2.1 j).2.2.1 ∈ ja_ws) (hk : ja_cls ci) (hs : ja_sto ci j true M.1.cls ty) (hi : M.1.name = "<init>") (hl1 : j < fs.length) (hn : narrow ty (ja_v g v) = ja_v g v) (hfit : fits ty (ja_v g v) = true) {fs' : List Value} (hfs : fs.set j v = fs') (k : K pc' loc st (A ++ (.inr (ci, fs') :: B)) nc ns) : K pc loc (v :: .ref q :: st) (A ++ (.inr (ci, fs) :: B)) nc ns := by
  subst hfs
  refine kw_putF hB h hlk hk hs hi (jx_at hA) hl1 hn hfit ?_
  rw [jx_set hA]
  exact k
theorem kx_put (hB : ja_B l D g M d cm sm K) (hA : A.length = q) {idx ci j : Nat} {fs : List Value} {v : Value} {dcl : String} {ty : FieldType} (h : ja_at M.2.1 pc pc' (.putfield idx) 3) (hf : ja_fld M.1.cls idx ci j) (hk : ja_cls ci) (hs : ja_sto ci j false dcl ty) (hl1 : j < fs.length) (hn : narrow ty (ja_v g v) = ja_v g v) (hfit : fits ty (ja_v g v) = true) {fs' : List Value} (hfs : fs.set j v = fs') (k : K pc' loc st (A ++ (.inr (ci, fs') :: B)) nc ns) : K pc loc (v :: .ref q :: st) (A ++ (.inr (ci, fs) :: B)) nc ns := by
  subst hfs
  refine kw_putf hB h hf hk hs (jx_at hA) hl1 hn hfit ?_
  rw [jx_set hA]
  exact k
end JKX
section JCT
variable (l : Launch) (D : va_G) (g : Nat × Nat)
theorem x_of {M : ja_M} {d mc ms : Nat} {cells : Nat → ja_H} {fr : ja_C} (h : ∀ {A : ja_H} {q : Nat}, A.length = q → AMet l D g d mc ms M [.ref q] (A ++ [fr]) (fun r X' => r = none ∧ X' = A ++ cells q)) {A B : ja_H} {c0 : ja_C} {q b : Nat} (hA : A.length = q) (hb : B.length = b) : AMet l D g d mc ms M [.ref (q + 1 + b)] (A ++ (c0 :: (B ++ [fr]))) (fun r X' => r = none ∧ X' = A ++ (c0 :: (B ++ cells (q + 1 + b)))) := by
  have h1 := h (A := A ++ (c0 :: B)) (q := q + 1 + b) (jx_len hA hb)
  rw [List.append_assoc, List.cons_append] at h1
  refine h1.post (fun r X' hq => ⟨hq.1, ?_⟩)
  rw [hq.2, List.append_assoc, List.cons_append]
set_option maxRecDepth 100000 in
theorem c_U_init {X : ja_H} {q : Nat} : AMet l D g 1 0 0 m_U_init [.ref q] X (fun r X' => r = none ∧ X' = X) := by
  refine ja_metK (by decide) rfl (Nat.le_of_ble_eq_true rfl) fun K hB hF => ?_
  refine kw_aload_n hB U_init_0 rfl ?_
  refine kw_objInit hB U_init_1 (jm 227 (by decide +kernel) rfl) (jm 90 (by decide +kernel) rfl) (jm 91 (by decide +kernel) rfl) (by decide) (Nat.le_of_ble_eq_true rfl) ?_
  refine kw_vret hF rfl U_init_4 ⟨rfl, rfl⟩ (by simp)
def jcL (q : Nat) : ja_H := .inr (0, [.int 0, .int 0, .ref (q + 1)]) :: [.inl (0, 192, .inl (fun _ => 0))]
theorem c_L_init' {A : ja_H} {q : Nat} (hA : A.length = q) : AMet l D g 1 1 192 m_L_init [.ref q] (A ++ [.inr (0, [.int 0, .int 0, .null])]) (fun r X' => r = none ∧ X' = A ++ jcL q) :=
  (c_L_init l D g (jx_at hA) (by simp [hA])).post (fun r X' hq => ⟨hq.1, by rw [hq.2, jx_set hA, List.append_assoc]; rfl⟩)
end JCT
