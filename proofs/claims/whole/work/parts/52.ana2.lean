-- Analysis: isDead, atMost, imageOf
noncomputable def jAtm (m : Nat) (L : jLan) : jLan := if L.1 ≤ m then L else jWid L
theorem jAtm_le {m : Nat} {L : jLan} (hm : 2 ≤ m) : (jAtm m L).1 ≤ m := by
  unfold jAtm
  split
  · assumption
  · unfold jWid
    split
    · exact Nat.le_trans (by decide) hm
    · show (if jSet (jAc L) = 255 then 1 else 2) ≤ m
      split <;> omega
/-- what GUARD (0), STRIP (1) or FOLD (2) makes of a language's words -/
noncomputable def jFn (f : Nat) (L : jLan) (w : List Nat) : Bool := if f = 0 then jGg L.2.1 (jkr (jGn (jXf L)) 0 w) else @decide (∃ u, jok u ∧ jIm (fun i => jimg i f) u = w ∧ jAc L u = true) (Classical.propDecidable _)
section JA2
variable (l : Launch) (D : va_G) (g : Nat × Nat) {X : ja_H}
set_option maxHeartbeats 4000000 in
set_option maxRecDepth 100000 in
theorem c_A_isDead {md un : Int32} {nw : Nat → jLan} (h : jAo X md un) (ha : jNa X) (hN : jNow X nw) : AMet l D g 1 0 0 m_A_isDead [.ref 11] X (fun r X' => r = some (.int (nI (decide (nw 0 = jEmp)).toNat)) ∧ X' = X) := by
  obtain ⟨fa, a1, a2⟩ := ha
  have h0 := hN 0 (by decide)
  refine ja_metK (by decide) rfl (Nat.le_of_ble_eq_true rfl) fun K hB hF => ?_
  refine kw_aload_n hB A_isDead_0 rfl ?_
  refine kw_getf hB A_isDead_1 f_A_33 h rfl ?_
  refine kw_iconst hB A_isDead_4 (v := nI 0) (by decide) ?_
  refine kn_aald hB A_isDead_5 a1 rfl rfl (by decide) (by decide) (a2 0 (by decide)) ?_
  refine kw_callV hB A_isDead_6 s_A_197 im_L_isEmpty se_L_isEmpty h0.1.choose_spec.1.1 rfl rfl (As := []) (w_L_isEmpty l D g h0) rfl (by decide) (Nat.le_of_ble_eq_true rfl) (by omega) (by omega) (fun r X1 hq hl => ?_)
  obtain ⟨rfl, hxeq⟩ := hq
  obtain rfl := hxeq.symm
  refine kw_zret hF rfl (by cases decide (nw 0 = jEmp) <;> decide) A_isDead_9 ?_ (by simp)
  exact ⟨rfl, rfl⟩
set_option maxHeartbeats 4000000 in
set_option maxRecDepth 100000 in
theorem c_A_atMost {q m : Nat} {md un : Int32} {L : jLan} (h : jAo X md un) (hS : jSc X) (hq : jVal X q L) (dq : 58 ≤ q) (hm : m < 2 ^ 31) : AMet l D g 4 0 0 m_A_atMost [.ref 11, .ref q, .int (nI m)] X (fun r X' => ∃ q', r = some (.ref q') ∧ (q' = q ∨ q' = 29) ∧ jVal X' q' (jAtm m L) ∧ jSc X' ∧ jfr [29, 30] X X') := by
  have s2 := hS.2.1
  have r1 := hq.1.choose_spec.1.1
  obtain ⟨n24, -, -, -⟩ := hq.1.good
  refine ja_metK (by decide) rfl (Nat.le_of_ble_eq_true rfl) fun K hB hF => ?_
  refine kw_aload_n hB A_atMost_0 rfl ?_
  refine kw_getf hB A_atMost_1 f_A_205 r1 rfl ?_
  refine kw_iload_n hB A_atMost_4 rfl ?_
  refine kn_icmp_gt hB A_atMost_5 (by omega) hm (fun hc => ?_) (fun hc => ?_)
  · refine kw_aload_n hB A_atMost_10 rfl ?_
    refine kw_getf hB A_atMost_11 f_A_50 h rfl ?_
    refine kw_aload_n hB A_atMost_14 rfl ?_
    refine kw_callV hB A_atMost_15 s_A_208 im_L_becomeWide se_L_becomeWide s2.choose_spec.choose_spec.choose_spec.1 rfl rfl (As := [.ref q]) (w_L_becomeWide l D g s2 hq) rfl (by decide) (Nat.le_of_ble_eq_true rfl) (by omega) (by omega) (fun r X1 hq hl => ?_)
    obtain ⟨rfl, w1, w2⟩ := hq
    have no : ∀ k, k ≠ 29 → k ≠ 30 → k ∉ [29, 29 + 1] := fun k h1 h2 z => by simp only [List.mem_cons, List.not_mem_nil, or_false] at z; omega
    have h1 : jAo X1 md un := w2.at (no 11 (by decide) (by decide)) h
    have hle := w2.1
    refine kw_aload_n hB A_atMost_18 rfl ?_
    refine kw_getf hB A_atMost_19 f_A_50 h1 rfl ?_
    -- areturn .areturn at 22
    refine kw_aret hF rfl A_atMost_22 ?_ (by omega)
    refine ⟨29, rfl, Or.inr rfl, ?_, ?_, w2⟩
    · unfold jAtm; rw [if_neg (by omega)]; exact w1
    · obtain ⟨t1, -, t3, ⟨ch, t4⟩, t5, t6, t7, t8, t9, t10, t11, t12⟩ := hS
      exact ⟨t1.fr w2 (no _ (by decide) (by decide)) (no _ (by decide) (by decide)), w1.x, t3.fr w2 (fun k hk => by simp only [List.mem_cons, List.not_mem_nil, or_false] at hk; omega), ⟨ch, w2.at (no _ (by decide) (by decide)) t4⟩, t5.fr w2 (no _ (by decide) (by decide)) (no _ (by decide) (by decide)), t6.fr w2 (no _ (by decide) (by decide)) (no _ (by decide) (by decide)), w2.at (no _ (by decide) (by decide)) t7, t8.fr w2 (no _ (by decide) (by decide)) (no _ (by decide) (by decide)), t9.fr w2 (no _ (by decide) (by decide)) (no _ (by decide) (by decide)), w2.at (no _ (by decide) (by decide)) t10, t11.fr w2 (no _ (by decide) (by decide)) (no _ (by decide) (by decide)), t12.fr w2 (fun k hk => by simp only [List.mem_cons, List.not_mem_nil, or_false] at hk; omega)⟩
  · refine kw_aload_n hB A_atMost_8 rfl ?_
    -- areturn .areturn at 9
    refine kw_aret hF rfl A_atMost_9 ?_ (by omega)
    exact ⟨q, rfl, Or.inl rfl, by unfold jAtm; rw [if_pos hc]; exact hq, hS, jfr.rf _ _⟩
set_option maxHeartbeats 4000000 in
set_option maxRecDepth 100000 in
theorem c_A_imageOf {q f : Nat} {md un : Int32} {L : jLan} (h : jAo X md un) (hS : jSc X) (hq : jVal X q L) (dq : 58 ≤ q ∨ q = 29) (hf : f < 3) (h8 : f ≠ 0 → L.1 ≤ 8) : AMet l D g 3 0 0 m_A_imageOf [.ref 11, .ref q, .int (nI f)] X (fun r X' => ∃ rq V fi nxt acc, r = some (.ref rq) ∧ jRl l D g 31 X' rq V fi nxt acc ∧ (∀ w, jok w → acc (jkr nxt fi w) = jFn f L w) ∧ jSc X' ∧ jfr (List.range' 50 8) X X') := by
  obtain ⟨t1, t2, t3, ⟨ch, t4⟩, t5, t6, t7, t8, t9, t10, t11, t12⟩ := hS
  refine ja_metK (by decide) rfl (Nat.le_of_ble_eq_true rfl) fun K hB hF => ?_
  refine kw_iload_n hB A_imageOf_0 rfl ?_
  refine kn_if_ne hB A_imageOf_1 (by omega) (fun hz => ?_) (fun hz => ?_)
  · refine kw_aload_n hB A_imageOf_17 rfl ?_
    refine kw_getf hB A_imageOf_18 f_A_84 h rfl ?_
    refine kw_aload_n hB A_imageOf_21 rfl ?_
    refine kw_iload_n hB A_imageOf_22 rfl ?_
    have hi0 := t12.2.choose_spec.choose_spec.1.1
    refine kw_callV hB A_imageOf_23 s_A_202 im_I_use se_I_use hi0 rfl rfl (As := [.ref q, .int (nI f)]) (v_I_use l D g t12 hq.1 (h8 hz) (by omega) (by omega)) rfl (by decide) (Nat.le_of_ble_eq_true rfl) (by omega) (by omega) (fun r X1 hq hl => ?_)
    obtain ⟨rfl, u1, u2⟩ := hq
    have no : ∀ k, k < 54 ∨ 57 < k → k ∉ [53 + 1, 53 + 2, 53 + 3, 53 + 4] := fun k h1 z => by simp only [List.mem_cons, List.not_mem_nil, or_false] at z; omega
    have h1 : jAo X1 md un := u1.at (no 11 (by decide)) h
    have hle := u1.1
    refine kw_aload_n hB A_imageOf_26 rfl ?_
    refine kw_getf hB A_imageOf_27 f_A_84 h1 rfl ?_
    -- areturn .areturn at 30
    refine kw_aret hF rfl A_imageOf_30 ?_ (by omega)
    obtain ⟨V, fi, nxt, acc, j1, j2⟩ := jRl_I l D g (b := 31) u2 (Or.inr (by decide))
    refine ⟨53, V, fi, nxt, acc, rfl, j1, fun w hw => ?_, ?_, u1.mono (fun k hk => ?_)⟩
    · unfold jFn
      rw [if_neg hz, Bool.eq_iff_iff, j2 w hw]
      exact (@decide_eq_true_iff _ (Classical.propDecidable _)).symm
    · obtain ⟨v1, v2, mf, sf, s, v3, v4, -⟩ := u2
      exact ⟨t1.fr u1 (no _ (by decide)) (no _ (by decide)), t2.fr u1 (no _ (by decide)) (no _ (by decide)), t3.fr u1 (fun k hk => by simp only [List.mem_cons, List.not_mem_nil, or_false] at hk; omega), ⟨ch, u1.at (no _ (by decide)) t4⟩, t5.fr u1 (no _ (by decide)) (no _ (by decide)), t6.fr u1 (no _ (by decide)) (no _ (by decide)), u1.at (no _ (by decide)) t7, t8.fr u1 (no _ (by decide)) (no _ (by decide)), t9.fr u1 (no _ (by decide)) (no _ (by decide)), u1.at (no _ (by decide)) t10, t11.fr u1 (no _ (by decide)) (no _ (by decide)), v1.x, mf, sf, v3, v4⟩
    · rw [List.mem_range'_1]
      simp only [List.mem_cons, List.not_mem_nil, or_false] at hk
      omega
  · subst hz
    refine kw_aload_n hB A_imageOf_4 rfl ?_
    refine kw_getf hB A_imageOf_5 f_A_77 h rfl ?_
    refine kw_aload_n hB A_imageOf_8 rfl ?_
    refine kw_callV hB A_imageOf_9 s_A_200 im_G_use se_G_use t10 rfl rfl (As := [.ref q]) (c_G_use l D g t10 t11 hq.1 (by omega)) rfl (by decide) (Nat.le_of_ble_eq_true rfl) (by omega) (by omega) (fun r X1 hq hl => ?_)
    obtain ⟨rfl, u0, u2, u1⟩ := hq
    have no : ∀ k, k < 51 ∨ 52 < k → k ∉ [50 + 1, 50 + 2] := fun k h1 z => by simp only [List.mem_cons, List.not_mem_nil, or_false] at z; omega
    have h1 : jAo X1 md un := u1.at (no 11 (by decide)) h
    have hle := u1.1
    refine kw_aload_n hB A_imageOf_12 rfl ?_
    refine kw_getf hB A_imageOf_13 f_A_77 h1 rfl ?_
    -- areturn .areturn at 16
    refine kw_aret hF rfl A_imageOf_16 ?_ (by omega)
    refine ⟨50, _, _, _, _, rfl, jRl_G l D g (b := 31) u0 u2 (Or.inr (by decide)), fun w hw => ?_, ?_, u1.mono (fun k hk => ?_)⟩
    · unfold jFn
      rw [if_pos rfl]
    · exact ⟨t1.fr u1 (no _ (by decide)) (no _ (by decide)), t2.fr u1 (no _ (by decide)) (no _ (by decide)), t3.fr u1 (fun k hk => by simp only [List.mem_cons, List.not_mem_nil, or_false] at hk; omega), ⟨ch, u1.at (no _ (by decide)) t4⟩, t5.fr u1 (no _ (by decide)) (no _ (by decide)), t6.fr u1 (no _ (by decide)) (no _ (by decide)), u1.at (no _ (by decide)) t7, t8.fr u1 (no _ (by decide)) (no _ (by decide)), t9.fr u1 (no _ (by decide)) (no _ (by decide)), u0, u2.x, t12.fr u1 (fun k hk => by simp only [List.mem_cons, List.not_mem_nil, or_false] at hk; omega)⟩
    · rw [List.mem_range'_1]
      simp only [List.mem_cons, List.not_mem_nil, or_false] at hk
      omega
end JA2
