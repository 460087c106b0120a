-- the law's entry: classes and arrays as the tables have them
theorem law_K {s : State} {args : Array Value} (hts : ∀ w ∈ lw_tbl, w.before args s = true) : ∃ D : va_G, va_K D ja_cl (ja_t D) s := by
  have hws : ∀ w ∈ ja_ws, w.before args s = true := fun w hw => hts w (List.mem_filter.mp hw).1
  have h1 : ∀ c : Nat, ∃ (q0 : ClassId × (Nat → Nat)), ∀ q, ja_cl[c]? = some q → u_Kn s q.1 q.2.1 q.2.2 q0.1 q0.2 := by
    intro c
    by_cases hc : c < 11
    · rcases (by omega : c = 0 ∨ c = 1 ∨ c = 2 ∨ c = 3 ∨ c = 4 ∨ c = 5 ∨ c = 6 ∨ c = 7 ∨ c = 8 ∨ c = 9 ∨ c = 10) with rfl | rfl | rfl | rfl | rfl | rfl | rfl | rfl | rfl | rfl | rfl
      · obtain ⟨cC, iS, h⟩ := u_known (n := 3) hws ji_L (hws _ (jm 161 (by decide +kernel) rfl))
        exact ⟨(cC, iS), fun q hq => by cases hq; exact h⟩
      · obtain ⟨cC, iS, h⟩ := u_known (n := 11) hws ji_R (hws _ (jm 93 (by decide +kernel) rfl))
        exact ⟨(cC, iS), fun q hq => by cases hq; exact h⟩
      · obtain ⟨cC, iS, h⟩ := u_known (n := 9) hws ji_B (hws _ (jm 181 (by decide +kernel) rfl))
        exact ⟨(cC, iS), fun q hq => by cases hq; exact h⟩
      · obtain ⟨cC, iS, h⟩ := u_known (n := 3) hws ji_P (hws _ (jm 220 (by decide +kernel) rfl))
        exact ⟨(cC, iS), fun q hq => by cases hq; exact h⟩
      · obtain ⟨cC, iS, h⟩ := u_known (n := 2) hws ji_Q (hws _ (jm 241 (by decide +kernel) rfl))
        exact ⟨(cC, iS), fun q hq => by cases hq; exact h⟩
      · obtain ⟨cC, iS, h⟩ := u_known (n := 1) hws ji_G (hws _ (jm 256 (by decide +kernel) rfl))
        exact ⟨(cC, iS), fun q hq => by cases hq; exact h⟩
      · obtain ⟨cC, iS, h⟩ := u_known (n := 3) hws ji_I (hws _ (jm 268 (by decide +kernel) rfl))
        exact ⟨(cC, iS), fun q hq => by cases hq; exact h⟩
      · obtain ⟨cC, iS, h⟩ := u_known (n := 17) hws ji_A (hws _ (jm 152 (by decide +kernel) rfl))
        exact ⟨(cC, iS), fun q hq => by cases hq; exact h⟩
      · obtain ⟨cC, iS, h⟩ := u_known (n := 6) hws ji_N (hws _ (jm 366 (by decide +kernel) rfl))
        exact ⟨(cC, iS), fun q hq => by cases hq; exact h⟩
      · obtain ⟨cC, iS, h⟩ := u_known (n := 3) hws ji_T (hws _ (jm 85 (by decide +kernel) rfl))
        exact ⟨(cC, iS), fun q hq => by cases hq; exact h⟩
      · obtain ⟨cC, iS, h⟩ := u_known (n := 42) hws ji_M (hws _ (jm 854 (by decide +kernel) rfl))
        exact ⟨(cC, iS), fun q hq => by cases hq; exact h⟩
    · exact ⟨(Classical.choice ⟨0⟩, fun _ => 0), fun q hq => absurd (List.getElem?_eq_some_iff.mp hq).1 hc⟩
  have h2 : ∀ t : Nat, ∃ cA : ClassId, ∀ ty, ja_ty[t]? = some ty → ArrOfT s cA ty ∧ va_RA s cA ty := by
    intro t
    by_cases ht : t < 6
    · rcases (by omega : t = 0 ∨ t = 1 ∨ t = 2 ∨ t = 3 ∨ t = 4 ∨ t = 5) with rfl | rfl | rfl | rfl | rfl | rfl
      · obtain ⟨cA, kA, comp, e1, e2, e3⟩ := Cond.arrayClass_spec (type := .int) (hts _ (List.mem_of_getElem? (i := 150) (by decide +kernel)))
        exact ⟨cA, fun ty hty => by cases hty; exact ⟨fun N z => ⟨fun k h => (by cases h), kA, e2, comp, e3⟩, e1⟩⟩
      · obtain ⟨cA, kA, comp, e1, e2, e3⟩ := Cond.arrayClass_spec (type := .long) (hts _ (List.mem_of_getElem? (i := 218) (by decide +kernel)))
        exact ⟨cA, fun ty hty => by cases hty; exact ⟨fun N z => ⟨fun k h => (by cases h), kA, e2, comp, e3⟩, e1⟩⟩
      · obtain ⟨cA, kA, comp, e1, e2, e3⟩ := Cond.arrayClass_spec (type := .boolean) (hts _ (List.mem_of_getElem? (i := 217) (by decide +kernel)))
        exact ⟨cA, fun ty hty => by cases hty; exact ⟨fun N z => ⟨fun k h => (by cases h), kA, e2, comp, e3⟩, e1⟩⟩
      · obtain ⟨cA, kA, comp, e1, e2, e3⟩ := Cond.arrayClass_spec (type := .byte) (hts _ (List.mem_of_getElem? (i := 986) (by decide +kernel)))
        exact ⟨cA, fun ty hty => by cases hty; exact ⟨fun N z => ⟨fun k h => (by cases h), kA, e2, comp, e3⟩, e1⟩⟩
      · obtain ⟨comp, cA, kA, e1, -, e2, e3, e4⟩ := Cond.arrayOver_spec (n := "TaintScanner$Language") (hts _ (List.mem_of_getElem? (i := 158) (by decide +kernel)))
        exact ⟨cA, fun ty hty => by cases hty; exact ⟨fun N z => ⟨fun k h => (by cases h), kA, e2, comp, e3⟩, kA, comp, e2, e3, e1, e4⟩⟩
      · obtain ⟨comp, cA, kA, e1, -, e2, e3, e4⟩ := arrayOverA_spec (t := .int) (hts _ (List.mem_of_getElem? (i := 160) (by decide +kernel)))
        exact ⟨cA, fun ty hty => by cases hty; exact ⟨fun N z => ⟨fun k h => (by cases h), kA, e2, comp, e3⟩, e4⟩⟩
    · exact ⟨Classical.choice ⟨0⟩, fun ty hty => absurd (List.getElem?_eq_some_iff.mp hty).1 ht⟩
  obtain ⟨F, hF⟩ := Classical.axiomOfChoice h1
  obtain ⟨G, hG⟩ := Classical.axiomOfChoice h2
  refine ⟨(fun k => if k < 100 then (F k).1 else G (k - 100), fun k => (F k).2), fun c q hq => ?_, fun k q hq => ?_⟩
  · have hc : c < 11 := (List.getElem?_eq_some_iff.mp hq).1
    have := hF c q hq
    show u_Kn s q.1 q.2.1 q.2.2 (if c < 100 then (F c).1 else G (c - 100)) (F c).2
    rw [if_pos (by omega)]
    exact this
  · have hk : k < 6 := by have := (List.getElem?_eq_some_iff.mp hq).1; simpa [ja_t] using this
    have ht : ∃ ty, ja_ty[k]? = some ty := ⟨_, List.getElem?_eq_getElem (show k < ja_ty.length from hk)⟩
    obtain ⟨ty, ht⟩ := ht
    rw [ja_t_at _ ht] at hq
    cases hq
    show ArrOfT s (if 100 + k < 100 then (F (100 + k)).1 else G (100 + k - 100)) ty ∧ va_RA s (if 100 + k < 100 then (F (100 + k)).1 else G (100 + k - 100)) ty
    rw [if_neg (by omega), Nat.add_sub_cancel_left]
    exact hG k ty ht
theorem law_N {s : State} {args : Array Value} (hts : ∀ w ∈ lw_tbl, w.before args s = true) : ∀ w ∈ ja_nw, va_Nw w s := by
  intro w hw
  have h1 := (List.mem_filter.mp hw).2
  have h2 := hts w (List.mem_filter.mp hw).1
  cases w <;> first | (simp [ja_isN] at h1; done) | exact va_Nw.of rfl h2
theorem law_A {s : State} {args : Array Value} (hts : ∀ w ∈ lw_tbl, w.before args s = true) : ∀ C ∈ ja_ao, ja_AO C s := by
  intro C hC
  rw [List.mem_singleton.mp hC]
  have h2 := hts (Cond.arrayOver (.array .int)) (List.mem_of_getElem? (i := 160) (by decide +kernel))
  exact ⟨va_AO.of (hts _ (List.mem_of_getElem? (i := 158) (by decide +kernel))), h2⟩
section JLWR
variable {p : Program} {l : Launch} {e : Env} {R : Room} {s : State} {m : MethodId} {args : Array Value} {below : List Frame} {meth : Method} {c : Code} {Q : State → Prop} {D : va_G} {g : Nat × Nat} {M : ja_M} {d : Nat} {pc pc' : Nat} {loc st : List Value} {X : ja_H} {nc ns : Nat}
theorem aw_slen (hE : ja_G p R s m args meth c D g M d) {L : Nat} {xs : Nat → Int32} (hX : va_X g.1 L xs s s.heap) (hbl : g.1 < s.heap.size) (hbA : ¬ g.2 ≤ g.1) (h : ja_at M.2.1 pc pc' .arraylength 1) (k : AW p l e R s m args below meth c Q D g M.2.2.1 pc' loc (.int (nI L) :: st) X nc ns) : AW p l e R s m args below meth c Q D g M.2.2.1 pc loc (.ref 0 :: st) X nc ns := by
  obtain ⟨hd, rfl⟩ := h
  intro H locs ls hP hS hz h0 hl
  exact va_slen hE.1 hE.2.1 hX hbl hbA hS hd (k H locs ls hP hS hz h0 hl)
theorem aw_sld (hE : ja_G p R s m args meth c D g M d) {L j : Nat} {xs : Nat → Int32} (hX : va_X g.1 L xs s s.heap) (hbl : g.1 < s.heap.size) (hbA : ¬ g.2 ≤ g.1) (hL : L < 2 ^ 31) (hj : j < L) (h : ja_at M.2.1 pc pc' .iaload 1) (k : AW p l e R s m args below meth c Q D g M.2.2.1 pc' loc (.int (xs j) :: st) X nc ns) : AW p l e R s m args below meth c Q D g M.2.2.1 pc loc (.int (nI j) :: .ref 0 :: st) X nc ns := by
  obtain ⟨hd, rfl⟩ := h
  intro H locs ls hP hS hz h0 hl
  have e1 : (nI j).toNatClampNeg = j := by rw [Int32.toNatClampNeg, nI_toInt (by omega)]; rfl
  refine va_sld hE.1 hE.2.1 hX hbl hbA hS (i := nI j) ?_ hd ?_
  · intro z
    rcases z with z | z
    · have := Int32.lt_iff_toInt_lt.mp z
      rw [nI_toInt (by omega)] at this
      have h0 : (0 : Int32).toInt = 0 := by decide
      omega
    · rw [e1] at z; omega
  · rw [e1]
    exact k H locs ls hP hS hz h0 hl
end JLWR
