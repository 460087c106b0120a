-- Analysis: leaveWhen, closeRound
noncomputable def jCr1 (w3 : Bool) (A H : jLan) : jLan := if jUni A H = H then H else if w3 then jWid (jUni A H) else jUni A H
noncomputable def jDn (nw hl : Nat → jLan) : Nat → Bool
  | 0 => true
  | v + 1 => jDn nw hl v && decide (jUni (nw v) (hl v) = hl v)
theorem jup_id {α : Type} {f : Nat → α} {k : Nat} {v : α} (h : f k = v) : va_up f k v = f := by
  funext j
  by_cases hj : j = k
  · subst hj; rw [jup_self, h]
  · rw [jup_ne hj]
theorem jAS.cong {X : ja_H} {md un : Int32} {rd : Nat → Int32} {nw nw' : Nat → jLan} {bf bg : Nat → Option jLan} (h : jAS X md un rd nw bf bg) (he : ∀ v, v < 5 → nw v = nw' v) : jAS X md un rd nw' bf bg := by
  obtain ⟨a1, a2, a3, a4, a5, a6, a7⟩ := h
  exact ⟨a1, a2, a3, a4, a5, fun v hv => by rw [← he v hv]; exact a6 v hv, a7⟩
theorem jAS.rds {X : ja_H} {md un : Int32} {rd rd' : Nat → Int32} {nw : Nat → jLan} {bf bg : Nat → Option jLan} (h : jAS X md un rd nw bf bg) : jAS (X.set 13 (.inl (0, 24, .inl rd'))) md un rd' nw bf bg ∧ jfr jWk X (X.set 13 (.inl (0, 24, .inl rd'))) := by
  have hf := jset_fr X 13 (.inl (0, 24, .inl rd'))
  obtain ⟨a1, a2, a3, a4, a5, a6, a7, a8, a9⟩ := h
  have hl : 13 < X.length := (List.getElem?_eq_some_iff.mp a9).1
  have no : ∀ k, k ≠ 13 → k ∉ [13] := fun k h1 z => h1 (List.mem_singleton.mp z)
  have hm : ∀ k ∈ [13], k = 13 := fun k z => List.mem_singleton.mp z
  exact ⟨⟨hf.at (no _ (by decide)) a1, a2.fr hf (fun k hk => by have := hm k hk; omega), a3.fr hf (no _ (by decide)), a4.fr hf (no _ (by decide)), a5.fr hf (no _ (by decide)), a6.fr hf (fun k hk => by have := hm k hk; omega), fun i hi => (a7 i hi).fr hf (no _ (by omega)) (no _ (by omega)), fun i hi => (a8 i hi).fr hf (no _ (by omega)) (no _ (by omega)), List.getElem?_set_self hl⟩, hf.mono (fun k hk => by have := hm k hk; rw [jWk_mem]; omega)⟩
section JCL
variable (l : Launch) (D : va_G) (g : Nat × Nat) {X : ja_H}
theorem d_A_unite {v b : Nat} {md un : Int32} {rd : Nat → Int32} {nw : Nat → jLan} {bf bg : Nat → Option jLan} {B : jLan} (h : jAS X md un rd nw bf bg) (hv : v < 5) (hb : jVal X b B) (db : 58 ≤ b) : AMet l D g 4 0 0 m_A_unite [.ref 11, .ref (70 + 2 * v), .ref b] X (fun r X' => r = none ∧ jAS X' md un rd (va_up nw v (jUni (nw v) B)) bf bg ∧ jfr ([70 + 2 * v, 70 + 2 * v + 1] ++ jZs) X X') := (c_A_unite l D g h.1 h.2.1 (h.2.2.2.2.2.1 v hv) hb (by omega) db).post (fun r X' hq => by
  obtain ⟨h1, h2, h3, h4⟩ := hq
  have hm : ∀ k ∈ [70 + 2 * v, 70 + 2 * v + 1] ++ jZs, (27 ≤ k ∧ k < 58) ∨ k = 70 + 2 * v ∨ k = 70 + 2 * v + 1 := fun k hk => by rw [List.mem_append, jZs_mem] at hk; simp only [List.mem_cons, List.not_mem_nil, or_false] at hk; omega
  exact ⟨h1, h.now h4 (fun k hk => by have := hm k hk; omega) h3 (h.2.2.2.2.2.1.set h4 (fun k hk => by have := hm k hk; omega) h2), h4⟩)
theorem jun_wk {v : Nat} (hv : v < 5) : ∀ k ∈ [70 + 2 * v, 70 + 2 * v + 1] ++ jZs, k ∈ jWk := fun k hk => by
  rw [List.mem_append, jZs_mem] at hk
  rw [jWk_mem]
  simp only [List.mem_cons, List.not_mem_nil, or_false] at hk
  omega
set_option maxHeartbeats 8000000 in
set_option maxRecDepth 100000 in
theorem c_A_leaveWhen {n hd : Nat} {md un : Int32} {rd : Nat → Int32} {K0 V A B M L : Nat → Nat} {nw og : Nat → jLan} {bf bg : Nat → Option jLan} (h : jAS X md un rd nw bf bg) (hR : jRv X 2 n K0 V A B M L) (hh : hd < n) (hk : K0 hd = 8) (ho : ∀ v, v < 5 → bg (L hd * 5 + v) = some (og v)) : AMet l D g 5 0 0 m_A_leaveWhen [.ref 11, .ref 2, .int (nI hd)] X (fun r X' => r = none ∧ jAS X' md un rd (fun v => jUni (nw v) (og v)) bf bg ∧ jfr jWk X X') := by
  obtain ⟨kd, vr, fs, sc, mt, lv, pt, hdd, sk, op, r, hn, hr⟩ := hR
  obtain ⟨r1, r2, r3, r4, -, r6, -, -, -, -, -, -, -, r14⟩ := hr hd hh
  obtain ⟨k1, k2⟩ := r14 (by omega)
  refine ja_metK (by decide) rfl (Nat.le_of_ble_eq_true rfl) fun K hB hF => ?_
  have loop : ∀ m v (Y : ja_H) (cw : Nat → jLan), v + m = 5 → jfr jWk X Y → jAS Y md un rd cw bf bg → (∀ v', v' < v → cw v' = jUni (nw v') (og v')) → (∀ v', v ≤ v' → v' < 5 → cw v' = nw v') → K 12 [.ref 11, .ref 2, .int (nI hd), .int (nI (L hd * 5)), .int (nI v)] [] Y 0 0 := by
    intro m
    induction m with
    | zero =>
      intro v Y cw hv hf hY c1 c2
      have hle := hf.1
      refine kw_iload hB A_leaveWhen_12 rfl ?_
      refine kw_iconst hB A_leaveWhen_14 (v := nI 5) (by decide) ?_
      refine kn_icmp_ge hB A_leaveWhen_15 (by omega) (by decide) (fun hc => ?_) (fun hc => absurd hc (by omega))
      refine kw_vret hF rfl A_leaveWhen_44 ?_ (by omega)
      exact ⟨rfl, hY.cong (fun v' hv' => c1 v' (by omega)), hf⟩
    | succ m ih =>
      intro v Y cw hv hf hY c1 c2
      have hle := hf.1
      obtain ⟨fb, b1, b2⟩ := hY.2.2.2.2.1
      obtain ⟨fa, a1, a2⟩ := hY.2.2.1
      have hb := (hY.2.2.2.2.2.2.2.1 (L hd * 5 + v) (by omega)).2 _ (ho v (by omega))
      refine kw_iload hB A_leaveWhen_12 rfl ?_
      refine kw_iconst hB A_leaveWhen_14 (v := nI 5) (by decide) ?_
      refine kn_icmp_ge hB A_leaveWhen_15 (by omega) (by decide) (fun hc => absurd hc (by omega)) (fun hc => ?_)
      refine kw_aload_n hB A_leaveWhen_18 rfl ?_
      refine kw_aload_n hB A_leaveWhen_19 rfl ?_
      refine kw_getf hB A_leaveWhen_20 f_A_33 hY.1 rfl ?_
      refine kw_iload hB A_leaveWhen_23 rfl ?_
      refine kn_aald hB A_leaveWhen_25 a1 rfl rfl (by omega) (by decide) (a2 _ (by omega)) ?_
      refine kw_aload_n hB A_leaveWhen_26 rfl ?_
      refine kw_getf hB A_leaveWhen_27 f_A_39 hY.1 rfl ?_
      refine kw_iload_n hB A_leaveWhen_30 rfl ?_
      refine kw_iload hB A_leaveWhen_31 rfl ?_
      refine kn_iadd hB A_leaveWhen_33 ?_
      refine kn_aald hB A_leaveWhen_34 b1 rfl rfl (by omega) (by decide) (b2 _ (by omega)) ?_
      refine kw_callV hB A_leaveWhen_35 s_A_218 im_A_unite se_A_unite hY.1 rfl rfl (As := [.ref (70 + 2 * v), .ref (110 + 2 * (L hd * 5 + v))]) (d_A_unite l D g hY (by omega) hb (by omega)) rfl (by decide) (Nat.le_of_ble_eq_true rfl) (by omega) (by omega) (fun r X1 hq hl => ?_)
      obtain ⟨rfl, e1, e2⟩ := hq
      refine kn_iinc hB A_leaveWhen_38 rfl (by decide) rfl ?_
      refine kw_goto hB A_leaveWhen_41 ?_
      refine ih (v + 1) X1 _ (by omega) (hf.tr (e2.mono (jun_wk (by omega)))) e1 (fun v' hv' => ?_) (fun v' h1 h2 => ?_)
      · by_cases hvv : v' = v
        · subst hvv; rw [jup_self, c2 v' (by omega) (by omega)]
        · rw [jup_ne hvv]; exact c1 v' (by omega)
      · rw [jup_ne (by omega)]; exact c2 v' (by omega) h2
  refine kw_aload_n hB A_leaveWhen_0 rfl ?_
  refine kw_getf hB A_leaveWhen_1 f_A_211 r.1 rfl ?_
  refine kw_iload_n hB A_leaveWhen_4 rfl ?_
  refine kn_iald hB A_leaveWhen_5 r.2.2.2.2.2.2.1 rfl (by omega) (by decide) ?_
  rw [k1]
  refine kw_iconst hB A_leaveWhen_6 (v := nI 5) (by decide) ?_
  refine kn_imul hB A_leaveWhen_7 ?_
  refine kw_istore_n hB A_leaveWhen_8 rfl (by decide) rfl ?_
  refine kw_iconst hB A_leaveWhen_9 (v := nI 0) (by decide) ?_
  refine kw_istore hB A_leaveWhen_10 (by decide) rfl ?_
  exact loop 5 0 X nw (by omega) (jfr.rf _ _) h (fun v' hv' => absurd hv' (by omega)) (fun _ _ _ => rfl)
end JCL
