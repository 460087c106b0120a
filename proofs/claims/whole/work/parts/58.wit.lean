-- Analysis: witnesses; isUnsafe, witnessLetter
def jW1 (len : Int32) (row : Nat → Int32) (o : Option (List Nat)) : Prop := match o with
  | none => len = -1
  | some w => len = nI w.length ∧ w.length ≤ 96 ∧ ∀ i c, w[i]? = some c → row i = nI (c + 1)
def jWv (X : ja_H) (cnt : Nat) (wt : Nat → Option (List Nat)) : Prop := ∃ (f : Nat → Option Nat) (wl : Nat → Int32), X[14]? = some (.inl (5, 6, .inr (.inr (.inr (.inr f))))) ∧ (∀ k, k < 6 → f k = some (15 + k)) ∧ X[21]? = some (.inl (0, 6, .inl wl)) ∧ ∀ k, k < 6 → ∃ row, X[15 + k]? = some (.inl (0, 96, .inl row)) ∧ (k < cnt → jW1 (wl k) row (wt k))
theorem jWv.fr {S : List Nat} {X Y : ja_H} {cnt : Nat} {wt : Nat → Option (List Nat)} (h : jWv X cnt wt) (hf : jfr S X Y) (hS : ∀ k ∈ S, k < 14 ∨ 21 < k) : jWv Y cnt wt := by
  obtain ⟨f, wl, a1, a2, a3, a4⟩ := h
  have no : ∀ k, 14 ≤ k → k ≤ 21 → k ∉ S := fun k h1 h2 z => by have := hS k z; omega
  refine ⟨f, wl, hf.at (no _ (by decide) (by decide)) a1, a2, hf.at (no _ (by decide) (by decide)) a3, fun k hk => ?_⟩
  obtain ⟨row, b1, b2⟩ := a4 k hk
  exact ⟨row, hf.at (no _ (by omega) (by omega)) b1, b2⟩
section JWI
variable (l : Launch) (D : va_G) (g : Nat × Nat) {X : ja_H}
set_option maxHeartbeats 4000000 in
set_option maxRecDepth 100000 in
theorem c_A_isUnsafe {k cnt : Nat} {md un : Int32} {wt : Nat → Option (List Nat)} (h : jAo X md un) (hW : jWv X cnt wt) (hk : k < cnt) (h6 : k < 6) : AMet l D g 0 0 0 m_A_isUnsafe [.ref 11, .int (nI k)] X (fun r X' => r = some (.int (nI (wt k).isSome.toNat)) ∧ X' = X) := by
  obtain ⟨f, wl, a1, a2, a3, a4⟩ := hW
  obtain ⟨row, b1, b2⟩ := a4 k h6
  have b2 := b2 hk
  refine ja_metK (by decide) rfl (Nat.le_of_ble_eq_true rfl) fun K hB hF => ?_
  refine kw_aload_n hB A_isUnsafe_0 rfl ?_
  refine kw_getf hB A_isUnsafe_1 f_A_30 h rfl ?_
  refine kw_iload_n hB A_isUnsafe_4 rfl ?_
  refine kn_iald hB A_isUnsafe_5 a3 rfl (by omega) (by decide) ?_
  refine kw_iconst hB A_isUnsafe_6 (v := -1) (by decide) ?_
  refine kw_icmp_eq hB A_isUnsafe_7 (fun hz => ?_) (fun hz => ?_)
  · have hn : wt k = none := by
      cases hw : wt k with
      | none => rfl
      | some w =>
        rw [hw] at b2
        have := congrArg Int32.toInt (b2.1.symm.trans hz)
        rw [nI_toInt (by have := b2.2.1; omega)] at this
        have h3 : (-1 : Int32).toInt = -1 := by decide
        omega
    refine kw_iconst hB A_isUnsafe_14 (v := nI 0) (by decide) ?_
    refine kw_zret hF rfl (by decide) A_isUnsafe_15 ?_ (by simp)
    exact ⟨by rw [hn]; rfl, rfl⟩
  · have hn : (wt k).isSome = true := by
      cases hw : wt k with
      | some w => rfl
      | none => rw [hw] at b2; exact absurd b2 hz
    refine kw_iconst hB A_isUnsafe_10 (v := nI 1) (by decide) ?_
    refine kw_goto hB A_isUnsafe_11 ?_
    refine kw_zret hF rfl (by decide) A_isUnsafe_15 ?_ (by simp)
    exact ⟨by rw [hn]; rfl, rfl⟩
set_option maxHeartbeats 4000000 in
set_option maxRecDepth 100000 in
theorem c_A_witnessLetter {k i cnt : Nat} {md un : Int32} {wt : Nat → Option (List Nat)} {w : List Nat} (h : jAo X md un) (hW : jWv X cnt wt) (hk : k < cnt) (h6 : k < 6) (hw : wt k = some w) (hi : i < 2 ^ 31) : AMet l D g 0 0 0 m_A_witnessLetter [.ref 11, .int (nI k), .int (nI i)] X (fun r X' => r = some (.int (nI (match w[i]? with | some c => c + 1 | none => 0))) ∧ X' = X) := by
  obtain ⟨f, wl, a1, a2, a3, a4⟩ := hW
  obtain ⟨row, b1, b2⟩ := a4 k h6
  have b2 := b2 hk
  rw [hw] at b2
  obtain ⟨b2, b3, b4⟩ := b2
  refine ja_metK (by decide) rfl (Nat.le_of_ble_eq_true rfl) fun K hB hF => ?_
  refine kw_iload_n hB A_witnessLetter_0 rfl ?_
  refine kw_aload_n hB A_witnessLetter_1 rfl ?_
  refine kw_getf hB A_witnessLetter_2 f_A_30 h rfl ?_
  refine kw_iload_n hB A_witnessLetter_5 rfl ?_
  refine kn_iald hB A_witnessLetter_6 a3 rfl (by omega) (by decide) ?_
  rw [b2]
  refine kn_icmp_ge hB A_witnessLetter_7 hi (by omega) (fun hc => ?_) (fun hc => ?_)
  · refine kw_iconst hB A_witnessLetter_21 (v := nI 0) (by decide) ?_
    refine kw_iret hF rfl A_witnessLetter_22 ?_ (by simp)
    exact ⟨by rw [List.getElem?_eq_none hc], rfl⟩
  · refine kw_aload_n hB A_witnessLetter_10 rfl ?_
    refine kw_getf hB A_witnessLetter_11 f_A_27 h rfl ?_
    refine kw_iload_n hB A_witnessLetter_14 rfl ?_
    refine kn_aald hB A_witnessLetter_15 a1 rfl rfl (by omega) (by decide) (a2 _ h6) ?_
    refine kw_iload_n hB A_witnessLetter_16 rfl ?_
    refine kn_iald hB A_witnessLetter_17 b1 rfl (by omega) (by decide) ?_
    rw [b4 i _ (List.getElem?_eq_getElem hc)]
    refine kw_goto hB A_witnessLetter_18 ?_
    refine kw_iret hF rfl A_witnessLetter_22 ?_ (by simp)
    exact ⟨by rw [List.getElem?_eq_getElem hc], rfl⟩
end JWI
