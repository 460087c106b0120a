-- Language, read and written as a raw cell: n states, the set g of good ones, the ways f; its row lies behind it
def jLr (X : ja_H) (q : Nat) (n g : Int32) (f : Nat → Int32) : Prop := X[q]? = some (.inr (0, [.int n, .int g, .ref (q + 1)])) ∧ X[q + 1]? = some (.inl (0, 192, .inl f))
def jLs (X : ja_H) (q : Nat) (n g : Int32) (f : Nat → Int32) : ja_H := (X.set q (.inr (0, [.int n, .int g, .ref (q + 1)]))).set (q + 1) (.inl (0, 192, .inl f))
theorem jLs_len (X : ja_H) (q : Nat) (n g : Int32) (f : Nat → Int32) : (jLs X q n g f).length = X.length := by simp [jLs]
theorem jLr.lt {X : ja_H} {q : Nat} {n g : Int32} {f : Nat → Int32} (h : jLr X q n g f) : q + 1 < X.length := (List.getElem?_eq_some_iff.mp h.2).1
theorem jLs_r {X : ja_H} {q : Nat} (n g : Int32) (f : Nat → Int32) (h : q + 1 < X.length) : jLr (jLs X q n g f) q n g f := by
  constructor
  · rw [jLs, List.getElem?_set_ne (by omega), List.getElem?_set_self (by omega)]
  · rw [jLs, List.getElem?_set_self (by simp; omega)]
theorem jLs_ne {X : ja_H} {q k : Nat} (n g : Int32) (f : Nat → Int32) (h1 : k ≠ q) (h2 : k ≠ q + 1) : (jLs X q n g f)[k]? = X[k]? := by
  rw [jLs, List.getElem?_set_ne (by omega), List.getElem?_set_ne (by omega)]
theorem jLs_of {X Y : ja_H} {q : Nat} {n g : Int32} {f : Nat → Int32} (hl : Y.length = X.length) (h : jLr Y q n g f) (hk : ∀ k, k ≠ q → k ≠ q + 1 → Y[k]? = X[k]?) : Y = jLs X q n g f := by
  apply List.ext_getElem?
  intro k
  have hlt := h.lt
  by_cases h1 : k = q
  · subst h1
    rw [h.1, (jLs_r n g f (by omega)).1]
  · by_cases h2 : k = q + 1
    · subst h2
      rw [h.2, (jLs_r n g f (by omega)).2]
    · rw [hk k h1 h2, jLs_ne _ _ _ h1 h2]
theorem jLs_id {X : ja_H} {q : Nat} {n g : Int32} {f : Nat → Int32} (h : jLr X q n g f) : jLs X q n g f = X := (jLs_of rfl h (fun _ _ _ => rfl)).symm
theorem jLs_s {X : ja_H} {q : Nat} (n g n' g' : Int32) (f f' : Nat → Int32) (h : q + 1 < X.length) : jLs (jLs X q n g f) q n' g' f' = jLs X q n' g' f' :=
  jLs_of (by rw [jLs_len, jLs_len]) (jLs_r n' g' f' (by rw [jLs_len]; exact h)) (fun k h1 h2 => by rw [jLs_ne _ _ _ h1 h2, jLs_ne _ _ _ h1 h2])
theorem jLr.put {X : ja_H} {q : Nat} {n g n' g' : Int32} {f : Nat → Int32} (h : jLr X q n g f) : X.set q (.inr (0, [.int n', .int g', .ref (q + 1)])) = jLs X q n' g' f := by
  refine jLs_of (by simp) ⟨by rw [List.getElem?_set_self (by have := h.lt; omega)], by rw [List.getElem?_set_ne (by omega)]; exact h.2⟩ (fun k h1 h2 => by rw [List.getElem?_set_ne (by omega)])
theorem jLr.wr {X : ja_H} {q : Nat} {n g : Int32} {f f' : Nat → Int32} (h : jLr X q n g f) : X.set (q + 1) (.inl (0, 192, .inl f')) = jLs X q n g f' := by
  refine jLs_of (by simp) ⟨by rw [List.getElem?_set_ne (by omega)]; exact h.1, by rw [List.getElem?_set_self h.lt]⟩ (fun k h1 h2 => by rw [List.getElem?_set_ne (by omega)])
theorem jLr.off {X : ja_H} {q p : Nat} {n g n' g' n2 g2 : Int32} {f f' f2 : Nat → Int32} (h : jLr X q n g f) (hp : jLr X p n' g' f') (hne : q ≠ p) : jLr (jLs X q n2 g2 f2) p n' g' f' := by
  have e1 : p ≠ q + 1 := fun e => by have := hp.1; rw [e, h.2] at this; cases this
  have e2 : p + 1 ≠ q := fun e => by have := hp.2; rw [e, h.1] at this; cases this
  exact ⟨by rw [jLs_ne _ _ _ (Ne.symm hne) e1]; exact hp.1, by rw [jLs_ne _ _ _ e2 (by omega)]; exact hp.2⟩
section JL1
variable (l : Launch) (D : va_G) (g : Nat × Nat)
set_option maxHeartbeats 4000000 in
set_option maxRecDepth 100000 in
theorem c_L_after {X : ja_H} {q s c : Nat} {n gd : Int32} {f : Nat → Int32} (h : jLr X q n gd f) (hc : 1 ≤ c) (hs : s * 8 + c - 1 < 192) : AMet l D g 0 0 0 m_L_after [.ref q, .int (nI s), .int (nI c)] X (fun r X' => r = some (.int (f (s * 8 + c - 1))) ∧ X' = X) := by
  obtain ⟨h1, h2⟩ := h
  refine ja_metK (by decide) rfl (Nat.le_of_ble_eq_true rfl) fun K hB hF => ?_
  refine kw_aload_n hB L_after_0 rfl ?_
  refine kw_getf hB L_after_1 f_L_11 (by assumption) rfl ?_
  refine kw_iload_n hB L_after_4 rfl ?_
  refine kw_bipush hB L_after_5 (v := nI 8) (by decide) ?_
  refine kn_imul hB L_after_7 ?_
  refine kw_iload_n hB L_after_8 rfl ?_
  refine kn_iadd hB L_after_9 ?_
  refine kw_iconst hB L_after_10 (v := nI 1) (by decide) ?_
  refine kn_isub hB L_after_11 (by omega) ?_
  refine kn_iald hB L_after_12 (by assumption) rfl (by omega) (by first | decide | omega) ?_
  refine kw_iret hF rfl L_after_13 ?_ (by first | (simp [jLs_len]; done) | (simp [*]; done))
  exact ⟨rfl, rfl⟩
set_option maxHeartbeats 4000000 in
set_option maxRecDepth 100000 in
theorem c_L_lead {X : ja_H} {q s c : Nat} {n gd t : Int32} {f : Nat → Int32} (h : jLr X q n gd f) (hc : 1 ≤ c) (hs : s * 8 + c - 1 < 192) : AMet l D g 0 0 0 m_L_lead [.ref q, .int (nI s), .int (nI c), .int t] X (fun r X' => r = none ∧ X' = jLs X q n gd (upd f (s * 8 + c - 1) t)) := by
  have h0 := h
  obtain ⟨h1, h2⟩ := h
  refine ja_metK (by decide) rfl (Nat.le_of_ble_eq_true rfl) fun K hB hF => ?_
  refine kw_aload_n hB L_lead_0 rfl ?_
  refine kw_getf hB L_lead_1 f_L_11 (by assumption) rfl ?_
  refine kw_iload_n hB L_lead_4 rfl ?_
  refine kw_bipush hB L_lead_5 (v := nI 8) (by decide) ?_
  refine kn_imul hB L_lead_7 ?_
  refine kw_iload_n hB L_lead_8 rfl ?_
  refine kn_iadd hB L_lead_9 ?_
  refine kw_iconst hB L_lead_10 (v := nI 1) (by decide) ?_
  refine kn_isub hB L_lead_11 (by omega) ?_
  refine kw_iload_n hB L_lead_12 rfl ?_
  refine kn_iast hB L_lead_13 (by assumption) rfl (by omega) (by first | decide | omega) ?_
  refine kw_vret hF rfl L_lead_14 ?_ (by first | (simp [jLs_len]; done) | (simp [*]; done))
  exact ⟨rfl, h0.wr⟩
set_option maxHeartbeats 4000000 in
set_option maxRecDepth 100000 in
theorem c_L_begin {X : ja_H} {q : Nat} {n gd n' gd' : Int32} {f : Nat → Int32} (h : jLr X q n gd f) : AMet l D g 0 0 0 m_L_begin [.ref q, .int n', .int gd'] X (fun r X' => r = none ∧ X' = jLs X q n' gd' f) := by
  have h0 := h
  obtain ⟨h1, h2⟩ := h
  refine ja_metK (by decide) rfl (Nat.le_of_ble_eq_true rfl) fun K hB hF => ?_
  refine kw_aload_n hB L_begin_0 rfl ?_
  refine kw_iload_n hB L_begin_1 rfl ?_
  refine kw_putf hB L_begin_2 f_L_19 jc_L jw_L_0 (by assumption) (Nat.le_of_ble_eq_true rfl) rfl rfl ?_
  refine kw_aload_n hB L_begin_5 rfl ?_
  refine kw_iload_n hB L_begin_6 rfl ?_
  refine kw_putf hB L_begin_7 f_L_15 jc_L jw_L_1 (List.getElem?_set_self (by have := h0.lt; omega)) (Nat.le_of_ble_eq_true rfl) rfl rfl ?_
  refine kw_vret hF rfl L_begin_10 ?_ (by first | (simp [jLs_len]; done) | (simp [*]; done))
  refine ⟨rfl, ?_⟩
  show (X.set q (.inr (0, [.int n', .int gd, .ref (q + 1)]))).set q (.inr (0, [.int n', .int gd', .ref (q + 1)])) = _
  rw [List.set_set, h0.put]
set_option maxHeartbeats 4000000 in
set_option maxRecDepth 100000 in
theorem c_L_isGood {X : ja_H} {q s gd : Nat} {n : Int32} {f : Nat → Int32} (h : jLr X q n (nI gd) f) (hg : gd < 2 ^ 31) (hs : s < 31) : AMet l D g 0 0 0 m_L_isGood [.ref q, .int (nI s)] X (fun r X' => r = some (.int (nI (gd.testBit s).toNat)) ∧ X' = X) := by
  obtain ⟨h1, h2⟩ := h
  refine ja_metK (by decide) rfl (Nat.le_of_ble_eq_true rfl) fun K hB hF => ?_
  refine kw_aload_n hB L_isGood_0 rfl ?_
  refine kw_getf hB L_isGood_1 f_L_15 (by assumption) rfl ?_
  refine kw_iload_n hB L_isGood_4 rfl ?_
  refine kn_ishr hB L_isGood_5 (by omega) hg ?_
  refine kw_iconst hB L_isGood_6 (v := nI 1) (by decide) ?_
  refine kn_iand hB L_isGood_7 ?_
  rw [Nat.and_one_is_mod, jb_bit]
  refine kw_iconst hB L_isGood_8 (v := nI 1) (by decide) ?_
  refine kn_icmp_ne hB L_isGood_9 (by split <;> decide) (by decide) (fun hc => ?_) (fun hc => ?_)
  · refine kw_iconst hB L_isGood_16 (v := nI 0) (by decide) ?_
    refine kw_zret hF rfl (by decide) L_isGood_17 ?_ (by simp)
    cases hb : gd.testBit s with
    | false => exact ⟨rfl, rfl⟩
    | true => rw [hb] at hc; exact absurd rfl hc
  · refine kw_iconst hB L_isGood_12 (v := nI 1) (by decide) ?_
    refine kw_goto hB L_isGood_13 ?_
    refine kw_zret hF rfl (by decide) L_isGood_17 ?_ (by simp)
    cases hb : gd.testBit s with
    | true => exact ⟨rfl, rfl⟩
    | false => rw [hb] at hc; cases hc
end JL1
