-- contracts by places
theorem ja_nw_ok : ∀ w ∈ ja_nw, ja_isN w = true := fun _ h => (List.mem_filter.mp h).2
theorem ja_nw_warm {s U : State} (hW : s.WarmedH U.vm) (h : ∀ w ∈ ja_nw, va_Nw w s) : ∀ w ∈ ja_nw, va_Nw w U := by
  intro w hw
  have h1 := ja_nw_ok w hw
  have h2 := h w hw
  cases w <;> first | (simp [ja_isN] at h1; done) | exact va_Nw.warmF hW h2 | exact va_Nw.warmM hW h2 | exact va_Nw.warmD hW h2
theorem ja_nw_same {s U : State} (hv : s.vm = U.vm) (h : ∀ w ∈ ja_nw, va_Nw w s) : ∀ w ∈ ja_nw, va_Nw w U := by
  intro w hw
  have h1 := ja_nw_ok w hw
  have h2 := h w hw
  cases w <;> first | (simp [ja_isN] at h1; done) | exact va_Nw.same rfl hv h2
def ja_Pc (D : va_G) (g : Nat × Nat) (X : ja_H) (U : State) : Prop := g.2 + X.length = U.heap.size + 1 ∧ X.head? = some ja_z ∧ va_P D ja_cl (ja_w D g X) U.heap ∧ va_K D ja_cl (ja_t D) U ∧ (∀ w ∈ ja_nw, va_Nw w U) ∧ (∀ C ∈ ja_ao, ja_AO C U)
theorem ja_blind (D : va_G) (g : Nat × Nat) (X : ja_H) (av : List Value) : FrameBlind (va_Pc av (ja_Pc D g X)) := by
  intro a U fr mk h
  obtain ⟨h1, h2, h3, h4, h5, h6, h7⟩ := h
  exact ⟨h1, h2, h3, h4, va_K.moved (u := U) (U := U.calling fr mk a) (Vm.Alike.refl U.vm) h5, ja_nw_same (s := U) (U := U.calling fr mk a) rfl h6, fun C hC => ja_AO.moved (u := U) (U := U.calling fr mk a) (Vm.Alike.refl U.vm) (h7 C hC)⟩
def ja_Qc (D : va_G) (g : Nat × Nat) (n : Nat) (Qp : Option Value → ja_H → Prop) : Array Value → State → Outcome → State → Prop := fun _ st oc t => (∃ (r : Option Value) (X' : ja_H), oc = .returned (r.map (ja_v g)) ∧ Qp r X' ∧ X'.length = n ∧ ja_Pc D g X' t) ∧ va_F (fun q => g.2 ≤ q) st t
abbrev ja_rm (d mc ms : Nat) : Room := { frames := d, cells := mc, slots := ms, locals := 40 * d }
def ja_wm (M : ja_M) : List Cond := .code M.1 M.2.1 M.2.2.1 M.2.2.2 :: ja_ws
/-- the method M with the arguments a on the heap X comes to an end, with an answer and a heap for which Qp holds; mc cells of ms slots come; d calls deep -/
def AMet (l : Launch) (D : va_G) (g : Nat × Nat) (d mc ms : Nat) (M : ja_M) (a : List Value) (X : ja_H) (Qp : Option Value → ja_H → Prop) : Prop :=
  Met l M.1 (ja_wm M) (ja_rm d mc ms) (va_Pc (a.map (ja_v g)) (ja_Pc D g X)) (ja_Qc D g (X.length + mc) Qp) mc ms (fun q => g.2 ≤ q)
def ja_args (n : Nat) (a : List Value) : List Value := (a.flatMap (fun v => if v.category = 2 then [v, .retAddr 0] else [v])) ++ List.replicate (n - (a.flatMap (fun v => if v.category = 2 then [v, .retAddr 0] else [v])).length) (.retAddr 0)
theorem ja_args_in (g : Nat × Nat) (a : List Value) : ∀ (o i : Nat) (v : Value), (a.flatMap (fun v => if v.category = 2 then [v, .retAddr 0] else [v]))[i]? = some v → (∀ n, v ≠ .retAddr n) → (o + i, ja_v g v) ∈ lv_args o (a.map (ja_v g)) := by
  induction a with
  | nil => intro o i v h; simp at h
  | cons x t ih =>
    intro o i v h hn
    rw [List.map_cons, lv_args, ja_cat]
    by_cases hx : x.category = 2
    · rw [List.flatMap_cons, if_pos hx] at h
      rw [if_pos hx]
      match i, h with
      | 0, h => simp at h; subst h; simp
      | 1, h => simp at h; exact absurd h.symm (hn 0)
      | i + 2, h =>
        have := ih (o + 2) i v (by simpa using h) hn
        rw [show o + (i + 2) = o + 2 + i by omega]
        exact List.mem_cons_of_mem _ this
    · rw [List.flatMap_cons, if_neg hx] at h
      rw [if_neg hx]
      match i, h with
      | 0, h => simp at h; subst h; simp
      | i + 1, h =>
        have := ih (o + 1) i v (by simpa using h) hn
        rw [show o + (i + 1) = o + 1 + i by omega]
        exact List.mem_cons_of_mem _ this
theorem ja_args_L (g : Nat × Nat) (n : Nat) (a : List Value) {ls : Array Slot} (h : lv_has ls n (lv_args 0 (a.map (ja_v g)))) : ja_L g n (ja_args n a) ls := by
  refine ⟨h.1, h.2.1, fun i v hv hn => ?_⟩
  unfold ja_args at hv
  by_cases hi : i < (a.flatMap (fun v => if v.category = 2 then [v, .retAddr 0] else [v])).length
  · rw [List.getElem?_append_left hi] at hv
    have := ja_args_in g a 0 i v hv hn
    rw [Nat.zero_add] at this
    exact h.2.2 _ this
  · rw [List.getElem?_append_right (by omega), List.getElem?_replicate] at hv
    split at hv <;> cases hv
    exact absurd rfl (hn 0)
theorem ja_head {X : ja_H} (h : X.head? = some ja_z) : ∃ n, X.length = n + 1 := by cases X with | nil => cases h | cons a b => exact ⟨b.length, rfl⟩
theorem ja_size {D : va_G} {g : Nat × Nat} {X : ja_H} {s : State} {H : Heap} {locs : List Loc} {nc : Nat} (hP : va_P D ja_cl (ja_w D g X) H) (hS : va_S (fun q => g.2 ≤ q) s.heap H locs) (hz : g.2 + X.length = s.heap.size + nc + 1) (h0 : X.head? = some ja_z) (hg : g.2 ≤ s.heap.size) (hle : H.size ≤ s.heap.size + nc) : g.2 + X.length = H.size + 1 := by
  obtain ⟨n, hn⟩ := ja_head h0
  have h1 := hS.1
  cases n with
  | zero => omega
  | succ k =>
    have hk : k + 1 < X.length := by omega
    have h2 := (hP k _ (ja_w_at (D := D) (g := g) (List.getElem?_eq_getElem hk))).lt
    simp only at h2
    omega
theorem ja_met {l : Launch} {D : va_G} {g : Nat × Nat} {d mc ms : Nat} {M : ja_M} {a : List Value} {X : ja_H} {Qp : Option Value → ja_H → Prop} {loc0 : List Value} (hy : plainName M.1.cls = true) (hl0 : ja_args M.2.2.1 a = loc0) (hlen : (lg_sl (a.map (ja_v g))).length ≤ M.2.2.1)
    (body : ∀ p e s m args below meth c, ja_G p (ja_rm d mc ms) s m args meth c D g M d → AW p l e (ja_rm d mc ms) s m args below meth c (MQ below (ja_Qc D g (X.length + mc) Qp) args s mc ms (fun q => g.2 ≤ q)) D g M.2.2.1 0 loc0 [] X 0 0) : AMet l D g d mc ms M a X Qp := by
  subst hl0
  refine Met.ofW (cc := M.2.1) (maxL := M.2.2.1) (ret := M.2.2.2) hy rfl ?_
  intro p e s m args below meth c s₁ B hml hv
  obtain ⟨rfl, hz, h0, hP, hK, hN, hA⟩ := hv
  have hts := atoms_spec (ws := ja_wm M) B.pre
  obtain ⟨n, hn⟩ := ja_head h0
  have hE : ja_G p (ja_rm d mc ms) s m (a.map (ja_v g)).toArray meth c D g M d := ⟨B.exec, B.bytes, hml, findClass_of_methodNamed B.named, fun w hw => hts w (List.mem_cons_of_mem _ hw), hK, hN, Nat.le_refl _, Nat.le_refl _, (name_of_methodNamed B.named B.method).1, B.returns, B.notSynchronized, hA, by omega⟩
  have hb := body p e s m _ below meth c hE
  have hl := lv_entry (a.map (ja_v g)) (n := M.2.2.1) hlen
  rw [lg_entry_eq]
  exact hb s.heap [] _ hP va_S.rf (by omega) h0 (ja_args_L g _ a hl)
section JCALL
variable {p : Program} {l : Launch} {e : Env} {R : Room} {s : State} {m : MethodId} {args : Array Value} {below : List Frame} {meth : Method} {c : Code} {Q : State → Prop} {D : va_G} {g : Nat × Nat} {M : ja_M} {d : Nat} {pc pc' : Nat} {loc st : List Value} {X : ja_H} {nc ns : Nat}
theorem aw_iret (hE : ja_G p R s m args meth c D g M d) {Qp : Option Value → ja_H → Prop} {n mc ms : Nat} {v : Int32} (hr : M.2.2.2 = some .int) (h : ja_at M.2.1 pc pc' .ireturn 1) (hq : Qp (some (.int v)) X) (hl : X.length = n) : AW p l e R s m args below meth c (MQ below (ja_Qc D g n Qp) args s mc ms (fun q => g.2 ≤ q)) D g M.2.2.1 pc loc [.int v] X mc ms := by
  obtain ⟨hd, -⟩ := h
  intro H locs ls hP hS hz h0 hl' T hT XX
  have hle : H.size ≤ s.heap.size + mc := by
    have := XX.same.2.2.1
    rw [← hT]
    exact this
  have hsz := ja_size hP hS hz h0 hE.2.2.2.2.2.2.2.2.2.2.2.2.2 hle
  exact (W.iret (v := v) hE.1 hE.2.1 (hE.2.2.2.2.2.2.2.2.2.2.1.trans hr) (fun t ht hW => ⟨⟨some (.int v), X, rfl, hq, hl, by rw [ht]; exact hsz, h0, by rw [ht]; exact hP, va_K.moved hW.alike hE.2.2.2.2.2.1, ja_nw_warm hW hE.2.2.2.2.2.2.1, fun C hC => ja_AO.moved hW.alike (hE.2.2.2.2.2.2.2.2.2.2.2.2.1 C hC)⟩, hS.F ht⟩) hS.2.2 hd hE.2.2.2.2.2.2.2.2.2.2.2.1) T hT XX
theorem aw_zret (hE : ja_G p R s m args meth c D g M d) {Qp : Option Value → ja_H → Prop} {n mc ms : Nat} {v : Int32} {ty : FieldType} (hr : M.2.2.2 = some ty) (hn : narrow ty (.int v) = .int v) (h : ja_at M.2.1 pc pc' .ireturn 1) (hq : Qp (some (.int v)) X) (hl : X.length = n) : AW p l e R s m args below meth c (MQ below (ja_Qc D g n Qp) args s mc ms (fun q => g.2 ≤ q)) D g M.2.2.1 pc loc [.int v] X mc ms := by
  obtain ⟨hd, -⟩ := h
  intro H locs ls hP hS hz h0 hl' T hT XX
  have hle : H.size ≤ s.heap.size + mc := by
    have := XX.same.2.2.1
    rw [← hT]
    exact this
  have hsz := ja_size hP hS hz h0 hE.2.2.2.2.2.2.2.2.2.2.2.2.2 hle
  exact (W.zret (v := v) hE.1 hE.2.1 (hE.2.2.2.2.2.2.2.2.2.2.1.trans hr) hn (fun t ht hW => ⟨⟨some (.int v), X, rfl, hq, hl, by rw [ht]; exact hsz, h0, by rw [ht]; exact hP, va_K.moved hW.alike hE.2.2.2.2.2.1, ja_nw_warm hW hE.2.2.2.2.2.2.1, fun C hC => ja_AO.moved hW.alike (hE.2.2.2.2.2.2.2.2.2.2.2.2.1 C hC)⟩, hS.F ht⟩) hS.2.2 hd hE.2.2.2.2.2.2.2.2.2.2.2.1) T hT XX
theorem aw_lret (hE : ja_G p R s m args meth c D g M d) {Qp : Option Value → ja_H → Prop} {n mc ms : Nat} {v : Int64} (hr : M.2.2.2 = some .long) (h : ja_at M.2.1 pc pc' .lreturn 1) (hq : Qp (some (.long v)) X) (hl : X.length = n) : AW p l e R s m args below meth c (MQ below (ja_Qc D g n Qp) args s mc ms (fun q => g.2 ≤ q)) D g M.2.2.1 pc loc [.long v] X mc ms := by
  obtain ⟨hd, -⟩ := h
  intro H locs ls hP hS hz h0 hl' T hT XX
  have hle : H.size ≤ s.heap.size + mc := by
    have := XX.same.2.2.1
    rw [← hT]
    exact this
  have hsz := ja_size hP hS hz h0 hE.2.2.2.2.2.2.2.2.2.2.2.2.2 hle
  exact (W.lret (v := v) hE.1 hE.2.1 (hE.2.2.2.2.2.2.2.2.2.2.1.trans hr) (fun t ht hW => ⟨⟨some (.long v), X, rfl, hq, hl, by rw [ht]; exact hsz, h0, by rw [ht]; exact hP, va_K.moved hW.alike hE.2.2.2.2.2.1, ja_nw_warm hW hE.2.2.2.2.2.2.1, fun C hC => ja_AO.moved hW.alike (hE.2.2.2.2.2.2.2.2.2.2.2.2.1 C hC)⟩, hS.F ht⟩) hS.2.2 hd hE.2.2.2.2.2.2.2.2.2.2.2.1) T hT XX
theorem aw_vret (hE : ja_G p R s m args meth c D g M d) {Qp : Option Value → ja_H → Prop} {n mc ms : Nat} (hr : M.2.2.2 = none) (h : ja_at M.2.1 pc pc' .return_ 1) (hq : Qp (none) X) (hl : X.length = n) : AW p l e R s m args below meth c (MQ below (ja_Qc D g n Qp) args s mc ms (fun q => g.2 ≤ q)) D g M.2.2.1 pc loc [] X mc ms := by
  obtain ⟨hd, -⟩ := h
  intro H locs ls hP hS hz h0 hl' T hT XX
  have hle : H.size ≤ s.heap.size + mc := by
    have := XX.same.2.2.1
    rw [← hT]
    exact this
  have hsz := ja_size hP hS hz h0 hE.2.2.2.2.2.2.2.2.2.2.2.2.2 hle
  exact (W.vret hE.1 hE.2.1 (hE.2.2.2.2.2.2.2.2.2.2.1.trans hr) (fun t ht hW => ⟨⟨none, X, rfl, hq, hl, by rw [ht]; exact hsz, h0, by rw [ht]; exact hP, va_K.moved hW.alike hE.2.2.2.2.2.1, ja_nw_warm hW hE.2.2.2.2.2.2.1, fun C hC => ja_AO.moved hW.alike (hE.2.2.2.2.2.2.2.2.2.2.2.2.1 C hC)⟩, hS.F ht⟩) hS.2.2 hd hE.2.2.2.2.2.2.2.2.2.2.2.1) T hT XX
theorem aw_aret (hE : ja_G p R s m args meth c D g M d) {Qp : Option Value → ja_H → Prop} {n mc ms : Nat} {v : Nat} {C : String} (hr : M.2.2.2 = some (.object C)) (h : ja_at M.2.1 pc pc' .areturn 1) (hq : Qp (some (.ref v)) X) (hl : X.length = n) : AW p l e R s m args below meth c (MQ below (ja_Qc D g n Qp) args s mc ms (fun q => g.2 ≤ q)) D g M.2.2.1 pc loc [.ref v] X mc ms := by
  obtain ⟨hd, -⟩ := h
  intro H locs ls hP hS hz h0 hl' T hT XX
  have hle : H.size ≤ s.heap.size + mc := by
    have := XX.same.2.2.1
    rw [← hT]
    exact this
  have hsz := ja_size hP hS hz h0 hE.2.2.2.2.2.2.2.2.2.2.2.2.2 hle
  exact (W.aret (v := .ref (ja_p g v)) hE.1 hE.2.1 (hE.2.2.2.2.2.2.2.2.2.2.1.trans hr) (Or.inl ⟨_, rfl⟩) (Or.inr ⟨_, rfl⟩) (fun t ht hW => ⟨⟨some (.ref v), X, rfl, hq, hl, by rw [ht]; exact hsz, h0, by rw [ht]; exact hP, va_K.moved hW.alike hE.2.2.2.2.2.1, ja_nw_warm hW hE.2.2.2.2.2.2.1, fun C hC => ja_AO.moved hW.alike (hE.2.2.2.2.2.2.2.2.2.2.2.2.1 C hC)⟩, hS.F ht⟩) hS.2.2 hd hE.2.2.2.2.2.2.2.2.2.2.2.1) T hT XX
theorem ja_after {Qp : Option Value → ja_H → Prop} {n mc ms nL : Nat} {a : Array Value} {st0 : List Value} {H : Heap} {locs : List Loc} {ls : Array Slot} (hr : va_Run p l e R s m args below meth c H locs nc ns mc ms (F0 m pc ls st0) (st.map (ja_v g)) (ja_Qc D g n Qp a) (fun q => g.2 ≤ q)) (hS : va_S (fun q => g.2 ≤ q) s.heap H locs) (hz : g.2 + X.length = s.heap.size + nc + 1) (hn : n = X.length + mc) (hl : ja_L g nL loc ls)
    (k : ∀ (r : Option Value) (X' : ja_H), Qp r X' → X'.length = n → AW p l e R s m args below meth c Q D g nL (pc + 3) loc (r.toList ++ st) X' (nc + mc) (ns + ms)) : W p l e R s m args below meth c H locs nc ns Q (F0 m pc ls st0) := by
  intro T hT XX
  obtain ⟨v, st₀, t, T', L, h0, X', hL, e1, e2, ⟨⟨r, X2, hv, hq, hlen, hPc⟩, hz1, hk1⟩, stp⟩ := hr T hT XX
  have hv' : v = r.map (ja_v g) := by cases hv; rfl
  subst hv'
  rw [h0] at hz1 hk1
  obtain ⟨hz2, hh2, hP2, -, -, -⟩ := hPc
  have hS' : va_S (fun q => g.2 ≤ q) s.heap T'.heap (locs ++ L) := ⟨Nat.le_trans hS.1 (by rw [e1]; exact hz1), fun q h1 h2 => by rw [e1, hk1 q (Nat.lt_of_lt_of_le h1 hS.1) h2]; exact hS.2.1 q h1 h2, fun q hq => by
      rcases List.mem_append.mp hq with h | h
      · exact hS.2.2 q h
      · exact hL q h⟩
  obtain ⟨t2, a1, b1⟩ := k r X2 hq hlen T'.heap (locs ++ L) ls (by rw [e1]; exact hP2) hS' (by omega) hh2 hl T' rfl X'
  refine ⟨t2, stp t2 ?_, b1⟩
  have hst : ((r.toList ++ st).map (ja_v g)) = (r.map (ja_v g)).toList ++ st.map (ja_v g) := by cases r <;> rfl
  rw [hst] at a1
  exact a1
theorem ja_good_in {M' : ja_M} (h : Cond.code M'.1 M'.2.1 M'.2.2.1 M'.2.2.2 ∈ ja_ws) : GoodIn ja_ws (ja_wm M') := by
  intro w hw
  rcases List.mem_cons.mp hw with rfl | hw
  · exact ⟨h, ja_ws_good _ h⟩
  · exact ⟨hw, ja_ws_good _ hw⟩
/-- what a call's site needs of the tables -/
def ja_site (own : String) (idx : Nat) (M' : ja_M) (n : Nat) : Prop := (Cond.methodLink own idx M'.1 ∈ ja_ws ∨ ∃ host, Cond.methodLinkNest own idx M'.1 host ∈ ja_nw) ∧ Cond.code M'.1 M'.2.1 M'.2.2.1 M'.2.2.2 ∈ ja_ws ∧ Cond.initialized M'.1.cls ∈ ja_ws ∧ (M'.1.cls ≠ "java/lang/invoke/MethodHandle" ∧ M'.1.cls ≠ "java/lang/invoke/VarHandle" ∧ (parseMethodDescriptor M'.1.desc).map (fun d => d.parameters.length) = some n) ∧ M'.2.2.1 ≤ 21
theorem ja_catsum (g : Nat × Nat) (st : List Value) : ((st.map (ja_v g)).map fun v => v.category) = st.map fun v => v.category := by
  rw [List.map_map]
  apply List.map_congr_left
  intro v _
  exact ja_cat g v
theorem aw_callS (hE : ja_G p R s m args meth c D g M d) {M' : ja_M} {idx na d' mc ms : Nat} {As : List Value} {Qp : Option Value → ja_H → Prop} (h : ja_at M.2.1 pc pc' (.invokestatic idx) 3) (hc : ja_site M.1.cls idx M' na) (hst : Cond.static M'.1 ∈ ja_ws) (hM : AMet l D g d' mc ms M' As X Qp) (hn : As.length = na) (hd' : d' + 1 ≤ d) (hcat : (st.map fun v => v.category).sum ≤ 8) (hcell : nc + mc ≤ R.cells) (hslot : ns + ms ≤ R.slots)
    (k : ∀ (r : Option Value) (X' : ja_H), Qp r X' → X'.length = X.length + mc → AW p l e R s m args below meth c Q D g M.2.2.1 pc' loc (r.toList ++ st) X' (nc + mc) (ns + ms)) : AW p l e R s m args below meth c Q D g M.2.2.1 pc loc (As.reverse ++ st) X nc ns := by
  obtain ⟨hd, rfl⟩ := h
  obtain ⟨hlk, hcode, hini, hdd, hmx⟩ := hc
  intro H locs ls hP hS hz h0 hl T hT XX
  have hle : H.size ≤ s.heap.size + nc := by
    have := XX.same.2.2.1
    rw [← hT]
    exact this
  have hsz := ja_size hP hS hz h0 hE.2.2.2.2.2.2.2.2.2.2.2.2.2 hle
  have hfr := hE.2.2.2.2.2.2.2.1
  have hlo := hE.2.2.2.2.2.2.2.2.1
  have hR : (ja_rm d' mc ms).frames + 1 ≤ R.frames ∧ 8 + (M'.2.2.1 + 11) + (ja_rm d' mc ms).locals ≤ R.locals := ⟨by show d' + 1 ≤ _; omega, by show 8 + (M'.2.2.1 + 11) + 40 * d' ≤ _; omega⟩
  have hpre : PreS s H (va_Pc (As.map (ja_v g)) (ja_Pc D g X)) (As.map (ja_v g)) := ⟨ja_blind D g X _, fun U hU hW => ⟨rfl, by rw [hU]; exact hsz, h0, by rw [hU]; exact hP, va_K.moved hW.alike hE.2.2.2.2.2.1, ja_nw_warm hW hE.2.2.2.2.2.2.1, fun C hC => ja_AO.moved hW.alike (hE.2.2.2.2.2.2.2.2.2.2.2.2.1 C hC)⟩⟩
  have hstk : ((As.reverse ++ st).map (ja_v g)) = (As.map (ja_v g)).reverse ++ st.map (ja_v g) := by simp
  have hrun : va_Run p l e R s m args below meth c H locs nc ns mc ms (F0 m pc ls ((As.reverse ++ st).map (ja_v g))) (st.map (ja_v g)) (ja_Qc D g (X.length + mc) Qp (As.map (ja_v g)).toArray) (fun q => g.2 ≤ q) := by
    rcases hlk with hlk | ⟨host, hlk⟩
    · exact va_runS (n := na) (Ts := ja_ws) (own := M.1.cls) (nL := M.2.2.1) ⟨hE.1, hE.2.1, hE.2.2.1, hE.2.2.2.1, hE.2.2.2.2.1⟩ hM ⟨callB_of na hE.2.2.2.2.1 (ja_good_in hcode) rfl rfl rfl (hE.2.2.2.2.1 _ hini) (hE.2.2.2.2.1 _ hlk) hdd hR, hE.2.2.2.2.1 _ hst⟩ hpre rfl (by rw [List.length_map]; exact hn) hl.1 hstk (lv_room (by rw [ja_catsum]; exact hcat)) hd ⟨hcell, hslot⟩
    · exact va_runSN (n := na) (Ts := ja_ws) (own := M.1.cls) (nL := M.2.2.1) ⟨hE.1, hE.2.1, hE.2.2.1, hE.2.2.2.1, hE.2.2.2.2.1⟩ hM ⟨va_cnB na hE.2.2.2.2.1 (ja_good_in hcode) rfl rfl rfl (hE.2.2.2.2.2.2.1 _ hlk) (hE.2.2.2.2.1 _ hini) hdd hR, hE.2.2.2.2.1 _ hst, trivial⟩ hpre rfl (by rw [List.length_map]; exact hn) hl.1 hstk (lv_room (by rw [ja_catsum]; exact hcat)) hd ⟨hcell, hslot⟩
  exact ja_after hrun hS hz rfl hl k T hT XX
theorem aw_callI (hE : ja_G p R s m args meth c D g M d) {M' : ja_M} {idx na d' mc ms q : Nat} {As : List Value} {Qp : Option Value → ja_H → Prop} (h : ja_at M.2.1 pc pc' (.invokespecial idx) 3) (hc : ja_site M.1.cls idx M' na) (hst : Cond.instanceMethod M'.1 ∈ ja_ws) (hin : M'.1.name = "<init>") (hret : M'.2.2.2 = none) (hM : AMet l D g d' mc ms M' (.ref q :: As) X Qp) (hn : As.length = na) (hd' : d' + 1 ≤ d) (hcat : (st.map fun v => v.category).sum ≤ 8) (hcell : nc + mc ≤ R.cells) (hslot : ns + ms ≤ R.slots)
    (k : ∀ (r : Option Value) (X' : ja_H), Qp r X' → X'.length = X.length + mc → AW p l e R s m args below meth c Q D g M.2.2.1 pc' loc (r.toList ++ st) X' (nc + mc) (ns + ms)) : AW p l e R s m args below meth c Q D g M.2.2.1 pc loc (As.reverse ++ .ref q :: st) X nc ns := by
  obtain ⟨hd, rfl⟩ := h
  obtain ⟨hlk, hcode, hini, hdd, hmx⟩ := hc
  intro H locs ls hP hS hz h0 hl T hT XX
  have hle : H.size ≤ s.heap.size + nc := by
    have := XX.same.2.2.1
    rw [← hT]
    exact this
  have hsz := ja_size hP hS hz h0 hE.2.2.2.2.2.2.2.2.2.2.2.2.2 hle
  have hfr := hE.2.2.2.2.2.2.2.1
  have hlo := hE.2.2.2.2.2.2.2.2.1
  have hR : (ja_rm d' mc ms).frames + 1 ≤ R.frames ∧ 8 + (M'.2.2.1 + 11) + (ja_rm d' mc ms).locals ≤ R.locals := ⟨by show d' + 1 ≤ _; omega, by show 8 + (M'.2.2.1 + 11) + 40 * d' ≤ _; omega⟩
  have hpre : PreS s H (va_Pc ((Value.ref q :: As).map (ja_v g)) (ja_Pc D g X)) (.ref (ja_p g q) :: As.map (ja_v g)) := ⟨ja_blind D g X _, fun U hU hW => ⟨rfl, by rw [hU]; exact hsz, h0, by rw [hU]; exact hP, va_K.moved hW.alike hE.2.2.2.2.2.1, ja_nw_warm hW hE.2.2.2.2.2.2.1, fun C hC => ja_AO.moved hW.alike (hE.2.2.2.2.2.2.2.2.2.2.2.2.1 C hC)⟩⟩
  have hstk : ((As.reverse ++ .ref q :: st).map (ja_v g)) = (As.map (ja_v g)).reverse ++ .ref (ja_p g q) :: st.map (ja_v g) := by simp [ja_v]
  have hcode' : Cond.code M'.1 M'.2.1 M'.2.2.1 none ∈ ja_ws := hret ▸ hcode
  have hwm : ja_wm M' = Cond.code M'.1 M'.2.1 M'.2.2.1 none :: ja_ws := by unfold ja_wm; rw [hret]
  have hrun : va_Run p l e R s m args below meth c H locs nc ns mc ms (F0 m pc ls ((As.reverse ++ .ref q :: st).map (ja_v g))) (st.map (ja_v g)) (ja_Qc D g (X.length + mc) Qp (Value.ref (ja_p g q) :: As.map (ja_v g)).toArray) (fun q => g.2 ≤ q) := by
    rcases hlk with hlk | ⟨host, hlk⟩
    · exact va_runI (n := na) (Ts := ja_ws) (own := M.1.cls) (nL := M.2.2.1) ⟨hE.1, hE.2.1, hE.2.2.1, hE.2.2.2.1, hE.2.2.2.2.1⟩ hM ⟨callB_of na hE.2.2.2.2.1 (ja_good_in hcode) hwm rfl rfl (hE.2.2.2.2.1 _ hini) (hE.2.2.2.2.1 _ hlk) hdd hR, hin, hE.2.2.2.2.1 _ hst⟩ hpre rfl (by rw [List.length_map]; exact hn) hl.1 hstk (lv_room (by rw [ja_catsum]; exact hcat)) hd ⟨hcell, hslot⟩
    · exact va_runIN (n := na) (Ts := ja_ws) (own := M.1.cls) (nL := M.2.2.1) ⟨hE.1, hE.2.1, hE.2.2.1, hE.2.2.2.1, hE.2.2.2.2.1⟩ hM ⟨va_cnB na hE.2.2.2.2.1 (ja_good_in hcode) hwm rfl rfl (hE.2.2.2.2.2.2.1 _ hlk) (hE.2.2.2.2.1 _ hini) hdd hR, hin, hE.2.2.2.2.1 _ hst⟩ hpre rfl (by rw [List.length_map]; exact hn) hl.1 hstk (lv_room (by rw [ja_catsum]; exact hcat)) hd ⟨hcell, hslot⟩
  exact ja_after hrun hS hz rfl hl k T hT XX
/-- invokevirtual of a method that the receiver's own class declares -/
theorem aw_callV (hE : ja_G p R s m args meth c D g M d) {M' : ja_M} {idx na d' mc ms q ci : Nat} {r0 : vw_C} {fs As : List Value} {Qp : Option Value → ja_H → Prop} (h : ja_at M.2.1 pc pc' (.invokevirtual idx) 3) (hc : ja_site M.1.cls idx M' na) (hst : Cond.instanceMethod M'.1 ∈ ja_ws) (hsel : Cond.selects M'.1.cls M'.1 M'.1 ∈ ja_ws) (hX : X[q]? = some (.inr (ci, fs))) (hci : ja_cl[ci]? = some r0) (hcn : r0.1 = M'.1.cls) (hM : AMet l D g d' mc ms M' (.ref q :: As) X Qp) (hn : As.length = na) (hd' : d' + 1 ≤ d) (hcat : (st.map fun v => v.category).sum ≤ 8) (hcell : nc + mc ≤ R.cells) (hslot : ns + ms ≤ R.slots)
    (k : ∀ (r : Option Value) (X' : ja_H), Qp r X' → X'.length = X.length + mc → AW p l e R s m args below meth c Q D g M.2.2.1 pc' loc (r.toList ++ st) X' (nc + mc) (ns + ms)) : AW p l e R s m args below meth c Q D g M.2.2.1 pc loc (As.reverse ++ .ref q :: st) X nc ns := by
  obtain ⟨hd, rfl⟩ := h
  obtain ⟨hlk, hcode, hini, hdd, hmx⟩ := hc
  intro H locs ls hP hS hz h0 hl T hT XX
  have hle : H.size ≤ s.heap.size + nc := by
    have := XX.same.2.2.1
    rw [← hT]
    exact this
  have hsz := ja_size hP hS hz h0 hE.2.2.2.2.2.2.2.2.2.2.2.2.2 hle
  have hfr := hE.2.2.2.2.2.2.2.1
  have hlo := hE.2.2.2.2.2.2.2.2.1
  have hR : (ja_rm d' mc ms).frames + 1 ≤ R.frames ∧ 8 + (M'.2.2.1 + 11) + (ja_rm d' mc ms).locals ≤ R.locals := ⟨by show d' + 1 ≤ _; omega, by show 8 + (M'.2.2.1 + 11) + 40 * d' ≤ _; omega⟩
  obtain ⟨kq, rfl⟩ := ja_pos_o h0 hX hci
  have hrec := va_recv hE.2.2.2.2.2.1 hP hci (ja_w_at (D := D) (g := g) hX)
  rw [hcn] at hrec
  have hpre : PreV s H M'.1.cls (ja_p g (kq + 1)) (va_Pc ((Value.ref (kq + 1) :: As).map (ja_v g)) (ja_Pc D g X)) (As.map (ja_v g)) := ⟨ja_blind D g X _, hrec, fun U hU hW => ⟨rfl, by rw [hU]; exact hsz, h0, by rw [hU]; exact hP, va_K.moved hW.alike hE.2.2.2.2.2.1, ja_nw_warm hW hE.2.2.2.2.2.2.1, fun C hC => ja_AO.moved hW.alike (hE.2.2.2.2.2.2.2.2.2.2.2.2.1 C hC)⟩⟩
  have hstk : ((As.reverse ++ .ref (kq + 1) :: st).map (ja_v g)) = (As.map (ja_v g)).reverse ++ .ref (ja_p g (kq + 1)) :: st.map (ja_v g) := by simp [ja_v]
  have hrun : va_Run p l e R s m args below meth c H locs nc ns mc ms (F0 m pc ls ((As.reverse ++ .ref (kq + 1) :: st).map (ja_v g))) (st.map (ja_v g)) (ja_Qc D g (X.length + mc) Qp (Value.ref (ja_p g (kq + 1)) :: As.map (ja_v g)).toArray) (fun q => g.2 ≤ q) := by
    rcases hlk with hlk | ⟨host, hlk⟩
    · exact va_runV (n := na) (Ts := ja_ws) (own := M.1.cls) (nL := M.2.2.1) ⟨hE.1, hE.2.1, hE.2.2.1, hE.2.2.2.1, hE.2.2.2.2.1⟩ hM ⟨callB_of na hE.2.2.2.2.1 (ja_good_in hcode) rfl rfl rfl (hE.2.2.2.2.1 _ hini) (hE.2.2.2.2.1 _ hlk) hdd hR, hE.2.2.2.2.1 _ hst, hE.2.2.2.2.1 _ hsel⟩ hpre rfl (by rw [List.length_map]; exact hn) hl.1 hstk (lv_room (by rw [ja_catsum]; exact hcat)) hd ⟨hcell, hslot⟩
    · exact va_runVN (n := na) (Ts := ja_ws) (own := M.1.cls) (nL := M.2.2.1) ⟨hE.1, hE.2.1, hE.2.2.1, hE.2.2.2.1, hE.2.2.2.2.1⟩ hM ⟨va_cnB na hE.2.2.2.2.1 (ja_good_in hcode) rfl rfl rfl (hE.2.2.2.2.2.2.1 _ hlk) (hE.2.2.2.2.1 _ hini) hdd hR, hE.2.2.2.2.1 _ hst, hE.2.2.2.2.1 _ hsel⟩ hpre rfl (by rw [List.length_map]; exact hn) hl.1 hstk (lv_room (by rw [ja_catsum]; exact hcat)) hd ⟨hcell, hslot⟩
  exact ja_after hrun hS hz rfl hl k T hT XX
theorem aw_objInit (hE : ja_G p R s m args meth c D g M d) {idx q : Nat} (h : ja_at M.2.1 pc pc' (.invokespecial idx) 3) (h1 : Cond.methodLink M.1.cls idx objectInit ∈ ja_ws) (h2 : Cond.instanceMethod objectInit ∈ ja_ws) (h3 : Cond.code objectInit ⟨#[0xb1]⟩ 1 none ∈ ja_ws) (hd' : 1 ≤ d) (hcat : (st.map fun v => v.category).sum ≤ 8) (k : AW p l e R s m args below meth c Q D g M.2.2.1 pc' loc st X nc ns) : AW p l e R s m args below meth c Q D g M.2.2.1 pc loc (.ref q :: st) X nc ns := by
  obtain ⟨hd, rfl⟩ := h
  have hfr := hE.2.2.2.2.2.2.2.1
  have hlo := hE.2.2.2.2.2.2.2.2.1
  exact fun H locs ls hP hS hz h0 hl => W.objInit hE.1 hE.2.1 hE.2.2.2.1 (hE.2.2.2.2.1 _ h1) (hE.2.2.2.2.1 _ h2) (hE.2.2.2.2.1 _ h3) rfl (by rw [hE.2.2.1]; exact hl.1) rfl hd (by omega) (by show 2 * 0 + ((st.map (ja_v g)).map fun v => v.category).sum + 12 ≤ _; rw [ja_catsum]; omega) (k H locs ls hP hS hz h0 hl)
end JCALL
/-- a contract holds with more room, and with a weaker end -/
theorem AMet.post {l : Launch} {D : va_G} {g : Nat × Nat} {d mc ms : Nat} {M : ja_M} {a : List Value} {X : ja_H} {Qp Qp' : Option Value → ja_H → Prop} (h : AMet l D g d mc ms M a X Qp) (hq : ∀ r X', Qp r X' → Qp' r X') : AMet l D g d mc ms M a X Qp' := by
  unfold AMet Met at *
  intro p e ha hc hk s m args below hf happ hP hK
  obtain ⟨k, o, h1, h2, h3, ⟨⟨r, X', e1, e2, e3, e4⟩, hF⟩, hL⟩ := h p e ha hc hk s m args below hf happ hP hK
  exact ⟨k, o, h1, h2, h3, ⟨⟨r, X', e1, hq r X' e2, e3, e4⟩, hF⟩, hL⟩
