-- the model's state; add
/-- what the runs leave -/
def jMi (X : ja_H) (ip wd pl : Nat → Nat) (hn : Nat) : Prop := ∃ (ipf plf : Nat → Int32) (wdf vlf : Nat → Int64), X[167]? = some (.inl (0, 3, .inl ipf)) ∧ X[168]? = some (.inl (1, 5, .inr (.inl vlf))) ∧ X[169]? = some (.inl (1, 20, .inr (.inl wdf))) ∧ X[170]? = some (.inl (0, 20, .inl plf)) ∧ (∀ i, i < 3 → ipf i = nI (ip i) ∧ jdg 4 (ip i) ∧ ip i < 2 ^ 24) ∧ ∀ i, i < 20 → i < hn → wdf i = lN (wd i) ∧ plf i = nI (pl i)
theorem jMi.fr {X Y : ja_H} {ip wd pl : Nat → Nat} {hn : Nat} {S : List Nat} (h : jMi X ip wd pl hn) (hf : jfr S X Y) (hS : ∀ k ∈ S, k < 167) : jMi Y ip wd pl hn := by
  obtain ⟨ipf, plf, wdf, vlf, h0, h1, h2, h3, h4⟩ := h
  have no : ∀ j, 167 ≤ j → j ∉ S := fun j h1 z => by have := hS j z; omega
  exact ⟨ipf, plf, wdf, vlf, hf.at (no _ (by decide)) h0, hf.at (no _ (by decide)) h1, hf.at (no _ (by decide)) h2, hf.at (no _ (by decide)) h3, h4⟩
def jMdl (X : ja_H) (n s : Nat) (K V A B M L : Nat → Nat) (σ : Nat → List (Nat × Nat)) (md : Bool) (ip wd pl : Nat → Nat) (hn : Nat) (ed : Int32) : Prop :=
  ∃ sc f mf rn fa, jMe X sc f ∧ (sc 0 = nI n ∧ sc 10 = nI (σ n).length ∧ sc 11 = nI s ∧ sc 15 = nI md.toNat ∧ sc 38 = ed ∧ sc 39 = nI hn) ∧ jMp X n K V A B σ ∧ X[158]? = some (.inl (0, 24, .inl mf)) ∧ X[159]? = some (.inl (0, 3, .inl rn)) ∧ X[166]? = some (.inl (0, 96, .inl fa)) ∧ jMi X ip wd pl hn ∧
  (md = true → (∀ k, k < s → f (35 + k) = some (jSn (jFin n K V A B M L) k)) ∧ ∀ i, i < n → K i = 7 → mf i = nI ((jFin n K V A B M L).2.1 i))
/-- the model's places -/
def jMS : List Nat := List.range' 145 26
theorem jMS_mem {k : Nat} : k ∈ jMS ↔ 145 ≤ k ∧ k < 171 := by
  simp only [jMS, List.mem_range'_1]
theorem jPa.pl {X : ja_H} {wh on tw th dp bg ol el bk s : Nat → Int32} (h : jPa X wh on tw th dp bg ol el bk) (hs : X[145]? = some (jMo s)) : jPl X s wh on tw th dp bg ol el bk := ⟨hs, h⟩
section JMAD
variable (l : Launch) (D : va_G) (g : Nat × Nat) {X : ja_H}
set_option maxHeartbeats 8000000 in
set_option maxRecDepth 100000 in
theorem c_M_add {n : Nat} {k v a b : Int32} {sc wh on tw th dp bg ol el bk : Nat → Int32} (h : jPl X sc wh on tw th dp bg ol el bk) (hs : sc 0 = nI n) (hn : n < 24) : AMet l D g 0 0 0 m_M_add [.ref 145, .int k, .int v, .int a, .int b] X (fun r X' => r = some (.int (nI (n + 1))) ∧ jPl X' (upd (upd sc 0 (nI (n + 1))) 15 (nI 0)) (upd wh n k) (upd on n v) (upd tw n a) (upd th n b) (upd dp n (sc 10)) bg (upd ol n (-1)) (upd el n (-1)) bk ∧ jfr [145, 146, 147, 148, 149, 150, 152, 153] X X') := by
  refine ja_metK (by decide) rfl (Nat.le_of_ble_eq_true rfl) fun K hB hF => ?_
  have fS : ∀ (Y : ja_H) (p : Nat) (c : ja_C), p ∈ [145, 146, 147, 148, 149, 150, 152, 153] → jfr [145, 146, 147, 148, 149, 150, 152, 153] Y (Y.set p c) := fun Y p c hp => (jset_fr Y p c).mono (fun k hk => by rw [List.mem_singleton.mp hk]; exact hp)
  refine kw_aload_n hB M_add_0 rfl ?_
  refine kw_getf hB M_add_1 f_M_7 h.1 rfl ?_
  refine kw_aload_n hB M_add_4 rfl ?_
  refine kw_getf hB M_add_5 f_M_91 h.1 rfl ?_
  rw [hs]
  refine kw_iload_n hB M_add_8 rfl ?_
  refine kn_iast hB M_add_9 h.2.1 rfl hn (by decide) ?_
  have h1 := h.s_wh (f' := upd wh n k)
  have f1 := fS X 146 (.inl (0, 24, .inl (upd wh n k))) (by decide)
  generalize X.set 146 (.inl (0, 24, .inl (upd wh n k))) = Y1 at h1 f1
  refine kw_aload_n hB M_add_10 rfl ?_
  refine kw_getf hB M_add_11 f_M_13 h1.1 rfl ?_
  refine kw_aload_n hB M_add_14 rfl ?_
  refine kw_getf hB M_add_15 f_M_91 h1.1 rfl ?_
  rw [hs]
  refine kw_iload_n hB M_add_18 rfl ?_
  refine kn_iast hB M_add_19 h1.2.2.1 rfl hn (by decide) ?_
  have h2 := h1.s_on (f' := upd on n v)
  have f2 := f1.tr (fS Y1 147 (.inl (0, 24, .inl (upd on n v))) (by decide))
  generalize Y1.set 147 (.inl (0, 24, .inl (upd on n v))) = Y2 at h2 f2
  refine kw_aload_n hB M_add_20 rfl ?_
  refine kw_getf hB M_add_21 f_M_16 h2.1 rfl ?_
  refine kw_aload_n hB M_add_24 rfl ?_
  refine kw_getf hB M_add_25 f_M_91 h2.1 rfl ?_
  rw [hs]
  refine kw_iload_n hB M_add_28 rfl ?_
  refine kn_iast hB M_add_29 h2.2.2.2.1 rfl hn (by decide) ?_
  have h3 := h2.s_tw (f' := upd tw n a)
  have f3 := f2.tr (fS Y2 148 (.inl (0, 24, .inl (upd tw n a))) (by decide))
  generalize Y2.set 148 (.inl (0, 24, .inl (upd tw n a))) = Y3 at h3 f3
  refine kw_aload_n hB M_add_30 rfl ?_
  refine kw_getf hB M_add_31 f_M_19 h3.1 rfl ?_
  refine kw_aload_n hB M_add_34 rfl ?_
  refine kw_getf hB M_add_35 f_M_91 h3.1 rfl ?_
  rw [hs]
  refine kw_iload hB M_add_38 rfl ?_
  refine kn_iast hB M_add_40 h3.2.2.2.2.1 rfl hn (by decide) ?_
  have h4 := h3.s_th (f' := upd th n b)
  have f4 := f3.tr (fS Y3 149 (.inl (0, 24, .inl (upd th n b))) (by decide))
  generalize Y3.set 149 (.inl (0, 24, .inl (upd th n b))) = Y4 at h4 f4
  refine kw_aload_n hB M_add_41 rfl ?_
  refine kw_getf hB M_add_42 f_M_22 h4.1 rfl ?_
  refine kw_aload_n hB M_add_45 rfl ?_
  refine kw_getf hB M_add_46 f_M_91 h4.1 rfl ?_
  rw [hs]
  refine kw_aload_n hB M_add_49 rfl ?_
  refine kw_getf hB M_add_50 f_M_94 h4.1 rfl ?_
  refine kn_iast hB M_add_53 h4.2.2.2.2.2.1 rfl hn (by decide) ?_
  have h5 := h4.s_dp (f' := upd dp n (sc 10))
  have f5 := f4.tr (fS Y4 150 (.inl (0, 24, .inl (upd dp n (sc 10)))) (by decide))
  generalize Y4.set 150 (.inl (0, 24, .inl (upd dp n (sc 10)))) = Y5 at h5 f5
  refine kw_aload_n hB M_add_54 rfl ?_
  refine kw_getf hB M_add_55 f_M_28 h5.1 rfl ?_
  refine kw_aload_n hB M_add_58 rfl ?_
  refine kw_getf hB M_add_59 f_M_91 h5.1 rfl ?_
  rw [hs]
  refine kw_iconst hB M_add_62 (v := -1) (by decide) ?_
  refine kn_iast hB M_add_63 h5.2.2.2.2.2.2.2.1 rfl hn (by decide) ?_
  have h6 := h5.s_ol (f' := upd ol n (-1))
  have f6 := f5.tr (fS Y5 152 (.inl (0, 24, .inl (upd ol n (-1)))) (by decide))
  generalize Y5.set 152 (.inl (0, 24, .inl (upd ol n (-1)))) = Y6 at h6 f6
  refine kw_aload_n hB M_add_64 rfl ?_
  refine kw_getf hB M_add_65 f_M_31 h6.1 rfl ?_
  refine kw_aload_n hB M_add_68 rfl ?_
  refine kw_getf hB M_add_69 f_M_91 h6.1 rfl ?_
  rw [hs]
  refine kw_iconst hB M_add_72 (v := -1) (by decide) ?_
  refine kn_iast hB M_add_73 h6.2.2.2.2.2.2.2.2.1 rfl hn (by decide) ?_
  have h7 := h6.s_el (f' := upd el n (-1))
  have f7 := f6.tr (fS Y6 153 (.inl (0, 24, .inl (upd el n (-1)))) (by decide))
  generalize Y6.set 153 (.inl (0, 24, .inl (upd el n (-1)))) = Y7 at h7 f7
  refine kw_aload_n hB M_add_74 rfl ?_
  refine kw_dup hB M_add_75 rfl ?_
  refine kw_getf hB M_add_76 f_M_91 h7.1 rfl ?_
  rw [hs]
  refine kw_iconst hB M_add_79 (v := nI 1) (by decide) ?_
  refine kn_iadd hB M_add_80 ?_
  refine km_put hB M_add_81 h7.1 f_M_91 jw_M_0 (by decide) rfl rfl rfl ?_
  have h8 := h7.s_s (f' := upd sc 0 (nI (n + 1)))
  have f8 := f7.tr (fS Y7 145 (jMo (upd sc 0 (nI (n + 1)))) (by decide))
  generalize Y7.set 145 (jMo (upd sc 0 (nI (n + 1)))) = Y8 at h8 f8
  refine kw_aload_n hB M_add_84 rfl ?_
  refine kw_iconst hB M_add_85 (v := nI 0) (by decide) ?_
  refine km_put hB M_add_86 h8.1 f_M_97 jw_M_15 (by decide) rfl rfl rfl ?_
  have h9 := h8.s_s (f' := upd (upd sc 0 (nI (n + 1))) 15 (nI 0))
  have f9 := f8.tr (fS Y8 145 (jMo (upd (upd sc 0 (nI (n + 1))) 15 (nI 0))) (by decide))
  generalize Y8.set 145 (jMo (upd (upd sc 0 (nI (n + 1))) 15 (nI 0))) = Y9 at h9 f9
  refine kw_aload_n hB M_add_89 rfl ?_
  refine kw_getf hB M_add_90 f_M_91 h9.1 rfl ?_
  refine kw_iret hF rfl M_add_93 ⟨by rw [pk_un (by decide), pk_us], h9, f9⟩ f9.1
end JMAD
