-- invokevirtual of a method that the named class leaves abstract
section JABS
variable {p : Program} {l : Launch} {e : Env} {R : Room} {s : State} {m : MethodId} {args : Array Value} {below : List Frame} {meth : Method} {c : Code} {Q : State → Prop} {D : va_G} {g : Nat × Nat} {M : ja_M} {d : Nat} {pc pc' : Nat} {loc st : List Value} {X : ja_H} {nc ns : Nat}
/-- what such a call's site needs of the tables: x is named, owner declares it, an object of the class C runs M' -/
def ja_abs (own : String) (idx : Nat) (x : MethodName) (C owner : String) (M' : ja_M) (n : Nat) : Prop := Cond.methodLink own idx x ∈ ja_ws ∧ Cond.sameMethod x.cls owner x.name x.desc ∈ ja_ws ∧ Cond.selects C x M'.1 ∈ ja_ws ∧ Cond.instanceMethod M'.1 ∈ ja_ws ∧ Cond.initialized M'.1.cls ∈ ja_ws ∧ Cond.code M'.1 M'.2.1 M'.2.2.1 M'.2.2.2 ∈ ja_ws ∧ Cond.declares ⟨owner, x.name, x.desc⟩ ∈ ja_nw ∧ (owner ≠ "java/lang/invoke/MethodHandle" ∧ owner ≠ "java/lang/invoke/VarHandle" ∧ (parseMethodDescriptor x.desc).map (fun d => d.parameters.length) = some n) ∧ M'.2.2.1 ≤ 21
theorem aw_callA (hE : ja_G p R s m args meth c D g M d) {M' : ja_M} {x : MethodName} {owner : String} {idx na d' mc ms q ci : Nat} {r0 : vw_C} {fs As : List Value} {Qp : Option Value → ja_H → Prop} (h : ja_at M.2.1 pc pc' (.invokevirtual idx) 3) (hc : ja_abs M.1.cls idx x r0.1 owner M' na) (hX : X[q]? = some (.inr (ci, fs))) (hci : ja_cl[ci]? = some r0) (hM : AMet l D g d' mc ms M' (.ref q :: As) X Qp) (hn : As.length = na) (hd' : d' + 1 ≤ d) (hcat : (st.map fun v => v.category).sum ≤ 8) (hcell : nc + mc ≤ R.cells) (hslot : ns + ms ≤ R.slots)
    (k : ∀ (r : Option Value) (X' : ja_H), Qp r X' → X'.length = X.length + mc → AW p l e R s m args below meth c Q D g M.2.2.1 pc' loc (r.toList ++ st) X' (nc + mc) (ns + ms)) : AW p l e R s m args below meth c Q D g M.2.2.1 pc loc (As.reverse ++ .ref q :: st) X nc ns := by
  obtain ⟨hd, rfl⟩ := h
  obtain ⟨hlk, hsm, hsel, hst, hini, hcode, hdec, hdd, hmx⟩ := hc
  intro H locs ls hP hS hz h0 hl T hT XX
  have hle : H.size ≤ s.heap.size + nc := by
    have := XX.same.2.2.1
    rw [← hT]
    exact this
  have hsz := ja_size hP hS hz h0 hE.2.2.2.2.2.2.2.2.2.2.2.2.2 hle
  have hfr := hE.2.2.2.2.2.2.2.1
  have hlo := hE.2.2.2.2.2.2.2.2.1
  have hR : (ja_rm d' mc ms).frames + 1 ≤ R.frames ∧ 8 + (M'.2.2.1 + 11) + (ja_rm d' mc ms).locals ≤ R.locals := ⟨by show d' + 1 ≤ _; omega, by show 8 + (M'.2.2.1 + 11) + 40 * d' ≤ _; omega⟩
  obtain ⟨kq, rfl⟩ := ja_pos_o h0 hX hci
  have hrec := va_recv hE.2.2.2.2.2.1 hP hci (ja_w_at (D := D) (g := g) hX)
  have hpre : PreV s H r0.1 (ja_p g (kq + 1)) (va_Pc ((Value.ref (kq + 1) :: As).map (ja_v g)) (ja_Pc D g X)) (As.map (ja_v g)) := ⟨ja_blind D g X _, hrec, fun U hU hW => ⟨rfl, by rw [hU]; exact hsz, h0, by rw [hU]; exact hP, va_K.moved hW.alike hE.2.2.2.2.2.1, ja_nw_warm hW hE.2.2.2.2.2.2.1, fun C hC => ja_AO.moved hW.alike (hE.2.2.2.2.2.2.2.2.2.2.2.2.1 C hC)⟩⟩
  have hstk : ((As.reverse ++ .ref (kq + 1) :: st).map (ja_v g)) = (As.map (ja_v g)).reverse ++ .ref (ja_p g (kq + 1)) :: st.map (ja_v g) := by simp [ja_v]
  have hgood : GoodIn ja_ws (va_wsU M.1.cls idx r0.1 owner x M'.1 (ja_wm M')) := by
    intro w hw
    rcases List.mem_append.mp hw with hw | hw
    · simp only [List.mem_cons, List.not_mem_nil, or_false] at hw
      rcases hw with rfl | rfl | rfl | rfl | rfl
      · exact ⟨hlk, ja_ws_good _ hlk⟩
      · exact ⟨hsm, ja_ws_good _ hsm⟩
      · exact ⟨hsel, ja_ws_good _ hsel⟩
      · exact ⟨hst, ja_ws_good _ hst⟩
      · exact ⟨hini, ja_ws_good _ hini⟩
    · exact ja_good_in hcode w hw
  have hrun : va_Run p l e R s m args below meth c H locs nc ns mc ms (F0 m pc ls ((As.reverse ++ .ref (kq + 1) :: st).map (ja_v g))) (st.map (ja_v g)) (ja_Qc D g (X.length + mc) Qp (Value.ref (ja_p g (kq + 1)) :: As.map (ja_v g)).toArray) (fun q => g.2 ≤ q) :=
    va_runU (n := na) (Ts := ja_ws) (own := M.1.cls) (nL := M.2.2.1) ⟨hE.1, hE.2.1, hE.2.2.1, hE.2.2.2.1, hE.2.2.2.2.1⟩ hM (va_cwA na hE.2.2.2.2.1 hgood rfl rfl rfl (hE.2.2.2.2.2.2.1 _ hdec) hdd hR) hpre rfl (by rw [List.length_map]; exact hn) hl.1 hstk (lv_room (by rw [ja_catsum]; exact hcat)) hd ⟨hcell, hslot⟩
  exact ja_after hrun hS hz rfl hl k T hT XX
end JABS
theorem kw_callA {l : Launch} {D : va_G} {g : Nat × Nat} {M : ja_M} {d cm sm : Nat} {K : ja_K} {pc pc' : Nat} {loc st : List Value} {X : ja_H} {nc ns : Nat} (hB : ja_B l D g M d cm sm K) {M' : ja_M} {x : MethodName} {owner : String} {idx na d' mc ms q ci : Nat} {r0 : vw_C} {fs As : List Value} {Qp : Option Value → ja_H → Prop} (h : ja_at M.2.1 pc pc' (.invokevirtual idx) 3) (hc : ja_abs M.1.cls idx x r0.1 owner M' na) (hX : X[q]? = some (.inr (ci, fs))) (hci : ja_cl[ci]? = some r0) (hM : AMet l D g d' mc ms M' (.ref q :: As) X Qp) (hn : As.length = na) (hd' : d' + 1 ≤ d) (hcat : (st.map fun v => v.category).sum ≤ 8) (hcell : nc + mc ≤ cm) (hslot : ns + ms ≤ sm)
    (k : ∀ (r : Option Value) (X' : ja_H), Qp r X' → X'.length = X.length + mc → K pc' loc (r.toList ++ st) X' (nc + mc) (ns + ms)) : K pc loc (As.reverse ++ .ref q :: st) X nc ns := by
  obtain ⟨p, e, R, s, m, args, below, meth, c, Q, hE, hc1, hs1, rfl⟩ := hB
  exact aw_callA hE h hc hX hci hM hn hd' hcat (Nat.le_trans hcell hc1) (Nat.le_trans hslot hs1) k
