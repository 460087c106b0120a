-- Automaton: its cells; reach
def jBr (X : ja_H) (b : Nat) (ct : Int32) (nx gd ky so en kd fk : Nat → Int32) (lk : Nat → Int64) : Prop :=
  X[b]? = some (.inr (2, [.int ct, .ref (b + 1), .ref (b + 2), .ref (b + 3), .ref (b + 4), .ref (b + 5), .ref (b + 6), .ref (b + 7), .ref (b + 8)])) ∧
  X[b + 1]? = some (.inl (0, 12288, .inl nx)) ∧ X[b + 2]? = some (.inl (2, 1536, .inl gd)) ∧ X[b + 3]? = some (.inl (0, 1536, .inl ky)) ∧ X[b + 4]? = some (.inl (0, 1536, .inl so)) ∧ X[b + 5]? = some (.inl (0, 1536, .inl en)) ∧ X[b + 6]? = some (.inl (0, 1536, .inl kd)) ∧ X[b + 7]? = some (.inl (0, 1536, .inl fk)) ∧ X[b + 8]? = some (.inl (1, 24, .inr (.inl lk)))
section JB0
variable {X : ja_H} {b : Nat} {ct ct' : Int32} {nx gd ky so en kd fk f' : Nat → Int32} {lk lk' : Nat → Int64}
theorem jBr.lt (h : jBr X b ct nx gd ky so en kd fk lk) : b + 8 < X.length := (List.getElem?_eq_some_iff.mp h.2.2.2.2.2.2.2.2).1
theorem jBr.s_ct (h : jBr X b ct nx gd ky so en kd fk lk) : jBr (X.set b (.inr (2, [.int ct', .ref (b + 1), .ref (b + 2), .ref (b + 3), .ref (b + 4), .ref (b + 5), .ref (b + 6), .ref (b + 7), .ref (b + 8)]))) b ct' nx gd ky so en kd fk lk := by
  have hl := h.lt
  obtain ⟨h0, h1, h2, h3, h4, h5, h6, h7, h8⟩ := h
  refine ⟨List.getElem?_set_self (by omega), ?_, ?_, ?_, ?_, ?_, ?_, ?_, ?_⟩ <;> (rw [List.getElem?_set_ne (by omega)]; assumption)
theorem jBr.s_nx (h : jBr X b ct nx gd ky so en kd fk lk) : jBr (X.set (b + 1) (.inl (0, 12288, .inl f'))) b ct f' gd ky so en kd fk lk := by
  have hl := h.lt
  obtain ⟨h0, h1, h2, h3, h4, h5, h6, h7, h8⟩ := h
  refine ⟨?_, List.getElem?_set_self (by omega), ?_, ?_, ?_, ?_, ?_, ?_, ?_⟩ <;> (rw [List.getElem?_set_ne (by omega)]; assumption)
theorem jBr.s_gd (h : jBr X b ct nx gd ky so en kd fk lk) : jBr (X.set (b + 2) (.inl (2, 1536, .inl f'))) b ct nx f' ky so en kd fk lk := by
  have hl := h.lt
  obtain ⟨h0, h1, h2, h3, h4, h5, h6, h7, h8⟩ := h
  refine ⟨?_, ?_, List.getElem?_set_self (by omega), ?_, ?_, ?_, ?_, ?_, ?_⟩ <;> (rw [List.getElem?_set_ne (by omega)]; assumption)
theorem jBr.s_ky (h : jBr X b ct nx gd ky so en kd fk lk) : jBr (X.set (b + 3) (.inl (0, 1536, .inl f'))) b ct nx gd f' so en kd fk lk := by
  have hl := h.lt
  obtain ⟨h0, h1, h2, h3, h4, h5, h6, h7, h8⟩ := h
  refine ⟨?_, ?_, ?_, List.getElem?_set_self (by omega), ?_, ?_, ?_, ?_, ?_⟩ <;> (rw [List.getElem?_set_ne (by omega)]; assumption)
theorem jBr.s_so (h : jBr X b ct nx gd ky so en kd fk lk) : jBr (X.set (b + 4) (.inl (0, 1536, .inl f'))) b ct nx gd ky f' en kd fk lk := by
  have hl := h.lt
  obtain ⟨h0, h1, h2, h3, h4, h5, h6, h7, h8⟩ := h
  refine ⟨?_, ?_, ?_, ?_, List.getElem?_set_self (by omega), ?_, ?_, ?_, ?_⟩ <;> (rw [List.getElem?_set_ne (by omega)]; assumption)
theorem jBr.s_en (h : jBr X b ct nx gd ky so en kd fk lk) : jBr (X.set (b + 5) (.inl (0, 1536, .inl f'))) b ct nx gd ky so f' kd fk lk := by
  have hl := h.lt
  obtain ⟨h0, h1, h2, h3, h4, h5, h6, h7, h8⟩ := h
  refine ⟨?_, ?_, ?_, ?_, ?_, List.getElem?_set_self (by omega), ?_, ?_, ?_⟩ <;> (rw [List.getElem?_set_ne (by omega)]; assumption)
theorem jBr.s_kd (h : jBr X b ct nx gd ky so en kd fk lk) : jBr (X.set (b + 6) (.inl (0, 1536, .inl f'))) b ct nx gd ky so en f' fk lk := by
  have hl := h.lt
  obtain ⟨h0, h1, h2, h3, h4, h5, h6, h7, h8⟩ := h
  refine ⟨?_, ?_, ?_, ?_, ?_, ?_, List.getElem?_set_self (by omega), ?_, ?_⟩ <;> (rw [List.getElem?_set_ne (by omega)]; assumption)
theorem jBr.s_fk (h : jBr X b ct nx gd ky so en kd fk lk) : jBr (X.set (b + 7) (.inl (0, 1536, .inl f'))) b ct nx gd ky so en kd f' lk := by
  have hl := h.lt
  obtain ⟨h0, h1, h2, h3, h4, h5, h6, h7, h8⟩ := h
  refine ⟨?_, ?_, ?_, ?_, ?_, ?_, ?_, List.getElem?_set_self (by omega), ?_⟩ <;> (rw [List.getElem?_set_ne (by omega)]; assumption)
theorem jBr.s_lk (h : jBr X b ct nx gd ky so en kd fk lk) : jBr (X.set (b + 8) (.inl (1, 24, .inr (.inl lk')))) b ct nx gd ky so en kd fk lk' := by
  have hl := h.lt
  obtain ⟨h0, h1, h2, h3, h4, h5, h6, h7, h8⟩ := h
  refine ⟨?_, ?_, ?_, ?_, ?_, ?_, ?_, ?_, List.getElem?_set_self (by omega)⟩ <;> (rw [List.getElem?_set_ne (by omega)]; assumption)
end JB0
abbrev jBS (b : Nat) : List Nat := [b, b + 1, b + 2, b + 3, b + 4, b + 5, b + 6, b + 7, b + 8]
theorem jBS_set (X : ja_H) (b i : Nat) (c : ja_C) (hi : i ≤ 8) : jfr (jBS b) X (X.set (b + i) c) := (jset_fr X (b + i) c).mono (by
  intro k hk
  simp only [List.mem_cons, List.not_mem_nil, or_false] at hk ⊢
  omega)
section JB1
variable (l : Launch) (D : va_G) (g : Nat × Nat) {X : ja_H}
set_option maxHeartbeats 4000000 in
set_option maxRecDepth 100000 in
theorem c_B_reach {b n k : Nat} {way : Int32} {nx gd ky so en kd fk : Nat → Int32} {lk : Nat → Int64} (h : jBr X b (nI n) nx gd ky so en kd fk lk) (hk : k < 1536) (hn : so k = -1 → n < 1536) : AMet l D g 0 0 0 m_B_reach [.ref b, .int (nI k), .int way] X (fun r X' => (so k ≠ -1 → r = some (.int (so k)) ∧ X' = X) ∧ (so k = -1 → r = some (.int (nI n)) ∧ jBr X' b (nI (n + 1)) nx gd (upd ky n (nI k)) (upd so k (nI n)) (upd en n way) kd fk lk ∧ jfr (jBS b) X X')) := by
  refine ja_metK (by decide) rfl (Nat.le_of_ble_eq_true rfl) fun K hB hF => ?_
  refine kw_aload_n hB B_reach_0 rfl ?_
  refine kw_getf hB B_reach_1 f_B_26 h.1 rfl ?_
  refine kw_iload_n hB B_reach_4 rfl ?_
  refine kn_iald hB B_reach_5 h.2.2.2.2.1 rfl (by omega) (by first | decide | omega) ?_
  refine kw_iconst hB B_reach_6 (v := -1) (by decide) ?_
  refine kw_icmp_ne hB B_reach_7 (fun hc => ?_) (fun hc => ?_)
  · refine kw_aload_n hB B_reach_50 rfl ?_
    refine kw_getf hB B_reach_51 f_B_26 h.1 rfl ?_
    refine kw_iload_n hB B_reach_54 rfl ?_
    refine kn_iald hB B_reach_55 h.2.2.2.2.1 rfl (by omega) (by first | decide | omega) ?_
    refine kw_iret hF rfl B_reach_56 ?_ (by first | (simp [jLs_len]; done) | (simp [*]; done))
    exact ⟨fun _ => ⟨rfl, rfl⟩, fun z => absurd z hc⟩
  · have hn' := hn hc
    refine kw_aload_n hB B_reach_10 rfl ?_
    refine kw_getf hB B_reach_11 f_B_26 h.1 rfl ?_
    refine kw_iload_n hB B_reach_14 rfl ?_
    refine kw_aload_n hB B_reach_15 rfl ?_
    refine kw_getf hB B_reach_16 f_B_48 h.1 rfl ?_
    refine kn_iast hB B_reach_19 h.2.2.2.2.1 rfl (by omega) (by decide) ?_
    have h1 := h.s_so (f' := upd so k (nI n))
    have e1 := jBS_set X b 4 (.inl (0, 1536, .inl (upd so k (nI n)))) (by decide)
    generalize X.set (b + 4) (.inl (0, 1536, .inl (upd so k (nI n)))) = Y1 at h1 e1 ⊢
    refine kw_aload_n hB B_reach_20 rfl ?_
    refine kw_getf hB B_reach_21 f_B_23 h1.1 rfl ?_
    refine kw_aload_n hB B_reach_24 rfl ?_
    refine kw_getf hB B_reach_25 f_B_48 h1.1 rfl ?_
    refine kw_iload_n hB B_reach_28 rfl ?_
    refine kn_iast hB B_reach_29 h1.2.2.2.1 rfl (by omega) (by decide) ?_
    have h2 := h1.s_ky (f' := upd ky n (nI k))
    have e2 := e1.tr (jBS_set Y1 b 3 (.inl (0, 1536, .inl (upd ky n (nI k)))) (by decide))
    generalize Y1.set (b + 3) (.inl (0, 1536, .inl (upd ky n (nI k)))) = Y2 at h2 e2 ⊢
    refine kw_aload_n hB B_reach_30 rfl ?_
    refine kw_getf hB B_reach_31 f_B_29 h2.1 rfl ?_
    refine kw_aload_n hB B_reach_34 rfl ?_
    refine kw_getf hB B_reach_35 f_B_48 h2.1 rfl ?_
    refine kw_iload_n hB B_reach_38 rfl ?_
    refine kn_iast hB B_reach_39 h2.2.2.2.2.2.1 rfl (by omega) (by decide) ?_
    have h3 := h2.s_en (f' := upd en n way)
    have e3 := e2.tr (jBS_set Y2 b 5 (.inl (0, 1536, .inl (upd en n way))) (by decide))
    generalize Y2.set (b + 5) (.inl (0, 1536, .inl (upd en n way))) = Y3 at h3 e3 ⊢
    refine kw_aload_n hB B_reach_40 rfl ?_
    refine kw_dup hB B_reach_41 rfl ?_
    refine kw_getf hB B_reach_42 f_B_48 h3.1 rfl ?_
    refine kw_iconst hB B_reach_45 (v := nI 1) (by decide) ?_
    refine kn_iadd hB B_reach_46 ?_
    refine kw_putf hB B_reach_47 f_B_48 jc_B jw_B_0 h3.1 (Nat.le_of_ble_eq_true rfl) rfl rfl ?_
    have h4 := h3.s_ct (ct' := nI (n + 1))
    have e4 := e3.tr (jBS_set Y3 b 0 (.inr (2, [.int (nI (n + 1)), .ref (b + 1), .ref (b + 2), .ref (b + 3), .ref (b + 4), .ref (b + 5), .ref (b + 6), .ref (b + 7), .ref (b + 8)])) (by decide))
    show K 50 _ _ (Y3.set b (.inr (2, [.int (nI (n + 1)), .ref (b + 1), .ref (b + 2), .ref (b + 3), .ref (b + 4), .ref (b + 5), .ref (b + 6), .ref (b + 7), .ref (b + 8)]))) _ _
    rw [Nat.add_zero] at e4
    generalize Y3.set b (.inr (2, [.int (nI (n + 1)), .ref (b + 1), .ref (b + 2), .ref (b + 3), .ref (b + 4), .ref (b + 5), .ref (b + 6), .ref (b + 7), .ref (b + 8)])) = Y4 at h4 e4 ⊢
    refine kw_aload_n hB B_reach_50 rfl ?_
    refine kw_getf hB B_reach_51 f_B_26 h4.1 rfl ?_
    refine kw_iload_n hB B_reach_54 rfl ?_
    refine kn_iald hB B_reach_55 h4.2.2.2.2.1 rfl (by omega) (by first | decide | omega) ?_
    refine kw_iret hF rfl B_reach_56 ?_ (by rw [e4.1]; rfl)
    refine ⟨fun z => absurd hc z, fun _ => ⟨?_, h4, e4⟩⟩
    rw [pk_us]
end JB1
/-- n different numbers below N -/
theorem jpig : ∀ (N : Nat) (f : Nat → Nat) (n : Nat), (∀ i, i < n → f i < N) → (∀ i j, i < n → j < n → f i = f j → i = j) → n ≤ N := by
  intro N
  induction N with
  | zero =>
    intro f n h1 _
    rcases Nat.eq_zero_or_pos n with h | h
    · omega
    · exact absurd (h1 0 h) (by omega)
  | succ N ih =>
    intro f n h1 h2
    by_cases hex : ∃ i, i < n ∧ f i = N
    · obtain ⟨i0, hi0, hf0⟩ := hex
      have := ih (fun i => if i < i0 then f i else f (i + 1)) (n - 1) (fun i hi => ?_) (fun i j hi hj he => ?_)
      · omega
      · show (if i < i0 then f i else f (i + 1)) < N
        split
        · have a := h1 i (by omega)
          have b : f i ≠ N := fun e => by have := h2 i i0 (by omega) hi0 (e.trans hf0.symm); omega
          omega
        · have a := h1 (i + 1) (by omega)
          have b : f (i + 1) ≠ N := fun e => by have := h2 (i + 1) i0 (by omega) hi0 (e.trans hf0.symm); omega
          omega
      · have he : (if i < i0 then f i else f (i + 1)) = (if j < i0 then f j else f (j + 1)) := he
        split at he <;> split at he
        · exact h2 i j (by omega) (by omega) he
        · have := h2 i (j + 1) (by omega) (by omega) he; omega
        · have := h2 (i + 1) j (by omega) (by omega) he; omega
        · have := h2 (i + 1) (j + 1) (by omega) (by omega) he; omega
    · refine Nat.le_succ_of_le (ih f n (fun i hi => ?_) h2)
      have := h1 i hi
      have b : f i ≠ N := fun e => hex ⟨i, hi, e⟩
      omega
