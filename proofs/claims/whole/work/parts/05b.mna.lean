-- new int[n][k]: the outer array, and behind it the inner ones
theorem jm_outer (c : ClassId) (N h0 : Nat) : ∀ i : Nat, Jvm.Free.Multi.outerC c N h0 i = arrV c N (fun j => va_rf (if j < i then some (h0 + 1 + j) else none))
  | 0 => by
    show ({ cls := c, slots := Array.replicate N .null, vm := .none } : Cell) = _
    rw [arrV_new]
    exact congrArg (arrV c N) (funext fun j => by simp [va_rf])
  | i + 1 => by
    show (Jvm.Free.Multi.outerC c N h0 i).setSlot i (.ref (h0 + 1 + i)) = _
    rw [jm_outer c N h0 i, arrV_store]
    refine congrArg (arrV c N) (funext fun j => ?_)
    by_cases e : j = i
    · subst e; simp [updV, va_rf]
    · by_cases h : j < i
      · simp [updV, e, h, Nat.lt_succ_of_lt h]
      · simp [updV, e, h, show ¬ j < i + 1 by omega]
section JMNA
variable {p : Program} {l : Launch} {e : Env} {R : Room} {s : State} {m : MethodId} {args : Array Value} {below : List Frame} {meth : Method} {c : Code} {Q : State → Prop} {D : va_G} {g : Nat × Nat} {M : ja_M} {d : Nat} {pc pc' : Nat} {loc st : List Value} {X : ja_H} {nc ns : Nat}
set_option maxHeartbeats 2000000 in
theorem aw_mna (hE : ja_G p R s m args meth c D g M d) {idx N' K' : Nat} {n k : Int32} (h : ja_at M.2.1 pc pc' (.multianewarray idx 2) 4) (hw1 : Cond.classLink M.1.cls idx "[[I" ∈ ja_ws) (hw2 : Cond.arrayClass .int ∈ ja_ws) (hn : ¬ n < 0) (hk : ¬ k < 0) (hN : n.toNatClampNeg = N') (hM : k.toNatClampNeg = K') (hb1 : N' * 4 ≤ 536870912) (hb2 : K' * 4 ≤ 536870912) (hc : nc + (1 + N') ≤ R.cells) (hs : ns + (N' + N' * K') ≤ R.slots)
    (kk : AW p l e R s m args below meth c Q D g M.2.2.1 pc' loc (.ref X.length :: st) ((X ++ [.inl (5, N', .inr (.inr (.inr (.inr (fun i => if i < N' then some (X.length + 1 + i) else none)))))]) ++ List.replicate N' (.inl (0, K', .inl (fun _ => 0)))) (nc + 1 + N') (ns + N' + N' * K')) : AW p l e R s m args below meth c Q D g M.2.2.1 pc loc (.int k :: .int n :: st) X nc ns := by
  obtain ⟨hd, rfl⟩ := h
  intro H locs ls hP hS hz h0 hl
  obtain ⟨x0, hx0⟩ : ∃ x0, X.length = x0 + 1 := by cases X with | nil => cases h0 | cons a b => exact ⟨b.length, rfl⟩
  subst hN
  subst hM
  intro T hT Xs
  have hAO := hE.2.2.2.2.2.2.2.2.2.2.2.2.1 _ (List.mem_singleton.mpr rfl)
  obtain ⟨vm₁, cA, comp, -, fA, fC, hO, -, X', step⟩ := Xs.multianewarray2F hE.1 (ty := .int) hE.2.2.2.1 (hE.2.2.2.2.1 _ hw1) hAO.2 (hE.2.2.2.2.1 _ hw2) (g := F0 m pc ls (.int k :: .int n :: st.map (ja_v g))) rfl (by rw [hE.2.1]; exact hd) rfl hn hk hb1 hb2 (by omega) rfl rfl hc hs
  have e1 : cA = D.1 105 := Option.some.inj (fA.symm.trans (hE.2.2.2.2.2.1.2 5 _ (ja_t_at D (t := 5) (ty := .array .int) rfl)).2)
  have e2 : comp = D.1 100 := Option.some.inj (fC.symm.trans (hE.2.2.2.2.2.1.2 0 _ (ja_t_at D (t := 0) (ty := .int) rfl)).2)
  subst e1 e2
  generalize hF : Jvm.Free.Multi.fill (T.setVm vm₁) (D.1 105) (D.1 100) n.toNatClampNeg k.toNatClampNeg (defaultValue .int) n.toNatClampNeg = F at X' step
  have hTh : (T.setVm vm₁).heap = H := hT
  obtain ⟨f1, f2, -, -⟩ := Jvm.Free.Multi.fill_facts (T.setVm vm₁) (D.1 105) (D.1 100) n.toNatClampNeg k.toNatClampNeg (defaultValue .int) n.toNatClampNeg
  rw [hF, hTh] at f1 f2
  have hold : ∀ x : Nat, x < H.size → F.heap[x]? = H[x]? := fun x hx => by
    have := Jvm.Free.Multi.fill_old (T.setVm vm₁) (D.1 105) (D.1 100) n.toNatClampNeg k.toNatClampNeg (defaultValue .int) (a := x) (by rw [hTh]; exact hx) n.toNatClampNeg
    rw [hF, hTh] at this
    exact this
  have hz1 : Jvm.Free.Multi.innerC (D.1 100) k.toNatClampNeg (defaultValue .int) = vp_cell (D.1 100) (k.toNatClampNeg, .inl (fun _ => 0)) := arrV_new _ _ _
  have hrow : ∀ j : Nat, j < n.toNatClampNeg → F.heap[H.size + 1 + j]? = some (vp_cell (D.1 100) (k.toNatClampNeg, .inl (fun _ => 0))) := fun j hj => by
    have := Jvm.Free.Multi.fill_inner (T.setVm vm₁) (D.1 105) (D.1 100) n.toNatClampNeg k.toNatClampNeg (defaultValue .int) n.toNatClampNeg j hj
    rw [hF, hTh, hz1] at this
    exact this
  have hHs : H.size = g.2 + x0 := by
    have u1 : F.heap.size ≤ s.heap.size + (nc + 1 + n.toNatClampNeg) := X'.same.2.2.1
    have u2 : g.2 + x0 ≤ H.size := by
      cases x0 with
      | zero => have := hS.1; have := hE.2.2.2.2.2.2.2.2.2.2.2.2.2; omega
      | succ y =>
        have hy : y + 1 < X.length := by omega
        have := (hP y _ (ja_w_at (D := D) (g := g) (List.getElem?_eq_getElem hy))).lt
        have this : g.2 + y < H.size := this
        omega
    omega
  rw [jm_outer] at f2
  have hP0 : va_P D ja_cl (ja_w D g X) F.heap := hP.kept (fun k9 x hx => hold x.1 ((hP k9 x hx).lt))
  have one : ∀ (x : Nat × va_E), va_at D ja_cl x F.heap → va_P D ja_cl [x] F.heap := fun x hx k9 y hy => by
    have h0 : k9 < 1 := (List.getElem?_eq_some_iff.mp hy).1
    rw [show k9 = 0 by omega] at hy
    cases hy
    exact hx
  have hP1 : va_P D ja_cl (ja_w D g (X ++ [.inl (5, n.toNatClampNeg, .inr (.inr (.inr (.inr (fun i => if i < n.toNatClampNeg then some (X.length + 1 + i) else none)))))])) F.heap := by
    rw [← ja_w_push D g X _ hx0]
    refine hP0.app (one _ ?_)
    show F.heap[g.2 + x0]? = some (vp_cell (D.1 105) (n.toNatClampNeg, .inr (.inr (.inr (.inr (fun j => (if j < n.toNatClampNeg then some (X.length + 1 + j) else none).map (ja_p g)))))))
    rw [← hHs, f2, vp_cell_q]
    congr 2
    funext j
    by_cases hj : j < n.toNatClampNeg
    · rw [if_pos hj, if_pos hj]
      show va_rf (some (H.size + 1 + j)) = va_rf (some (ja_p g (X.length + 1 + j)))
      rw [show X.length + 1 + j = (X.length + j) + 1 by omega]
      show va_rf (some (H.size + 1 + j)) = va_rf (some (g.2 + (X.length + j)))
      rw [hHs, hx0, show g.2 + x0 + 1 + j = g.2 + (x0 + 1 + j) by omega]
    · rw [if_neg hj, if_neg hj]; rfl
  have hPi : ∀ i, i ≤ n.toNatClampNeg → va_P D ja_cl (ja_w D g ((X ++ [.inl (5, n.toNatClampNeg, .inr (.inr (.inr (.inr (fun i => if i < n.toNatClampNeg then some (X.length + 1 + i) else none)))))]) ++ List.replicate i (.inl (0, k.toNatClampNeg, .inl (fun _ => 0))))) F.heap := by
    intro i
    induction i with
    | zero => intro _; rw [List.replicate_zero, List.append_nil]; exact hP1
    | succ i ih =>
      intro hi
      rw [List.replicate_succ', ← List.append_assoc, ← ja_w_push D g _ _ (n := x0 + 1 + i) (by simp; omega)]
      refine (ih (by omega)).app (one _ ?_)
      show F.heap[g.2 + (x0 + 1 + i)]? = some (vp_cell (D.1 100) (k.toNatClampNeg, .inl (fun _ => 0)))
      rw [show g.2 + (x0 + 1 + i) = H.size + 1 + i by omega]
      exact hrow i (by omega)
  have hst : ((Value.ref X.length :: st).map (ja_v g)) = .ref (g.2 + x0) :: st.map (ja_v g) := by rw [hx0]; rfl
  have k2 := kk F.heap locs ls (hPi _ (Nat.le_refl _)) ⟨by have := hS.1; omega, fun x h1 h2 => (hold x (Nat.lt_of_lt_of_le h1 hS.1)).trans (hS.2.1 x h1 h2), hS.2.2⟩ (by simp only [List.length_append, List.length_cons, List.length_nil, List.length_replicate]; omega) (by cases X with | nil => cases h0 | cons a b => exact h0) hl
  rw [hst, ← hHs] at k2
  obtain ⟨t, a1, b1⟩ := k2 F rfl X'
  refine ⟨t, step t ?_, b1⟩
  have e3 : T.heap.size = H.size := by rw [hT]
  rw [e3]
  exact a1
end JMNA
