-- java.util.Arrays.fill
theorem ja_set_self {X : ja_H} {q : Nat} {c : ja_C} (h : X[q]? = some c) : X.set q c = X := by
  apply List.ext_getElem?
  intro k
  by_cases hk : q = k
  · subst hk
    rw [List.getElem?_set_self (List.getElem?_eq_some_iff.mp h).1, h]
  · rw [List.getElem?_set_ne hk]
def jfl {α : Type} (f : Nat → α) (a b : Nat) (v : α) : Nat → α := fun j => if a ≤ j ∧ j < b then v else f j
theorem jfl_0 {α : Type} (f : Nat → α) (a : Nat) (v : α) : jfl f a a v = f := by
  funext j; simp only [jfl]; rw [if_neg (by omega)]
theorem jfl_upd (f : Nat → Int32) {a i : Nat} (h : a ≤ i) (v : Int32) : upd (jfl f a i v) i v = jfl f a (i + 1) v := by
  funext j
  simp only [upd, jfl]
  by_cases h1 : j = i
  · rw [if_pos h1, if_pos (by omega)]
  · rw [if_neg h1]
    by_cases h2 : a ≤ j ∧ j < i
    · rw [if_pos h2, if_pos (by omega)]
    · rw [if_neg h2, if_neg (by omega)]
theorem jfl_updL (f : Nat → Int64) {a i : Nat} (h : a ≤ i) (v : Int64) : vp_updL (jfl f a i v) i v = jfl f a (i + 1) v := by
  funext j
  simp only [vp_updL, jfl]
  by_cases h1 : j = i
  · rw [if_pos h1, if_pos (by omega)]
  · rw [if_neg h1]
    by_cases h2 : a ≤ j ∧ j < i
    · rw [if_pos h2, if_pos (by omega)]
    · rw [if_neg h2, if_neg (by omega)]
theorem J_rangeCheck_0 : ja_at prog_16_method_30_code 0 1 (.iload_n 1) 1 := ⟨by decide +kernel, rfl⟩
theorem J_rangeCheck_1 : ja_at prog_16_method_30_code 1 2 (.iload_n 2) 1 := ⟨by decide +kernel, rfl⟩
theorem J_rangeCheck_2 : ja_to prog_16_method_30_code 2 5 46 (.if_icmp .le 44) 44 := ⟨by decide +kernel, rfl, rfl⟩
theorem J_rangeCheck_46 : ja_at prog_16_method_30_code 46 47 (.iload_n 1) 1 := ⟨by decide +kernel, rfl⟩
theorem J_rangeCheck_47 : ja_to prog_16_method_30_code 47 50 59 (.ifCond .ge 12) 12 := ⟨by decide +kernel, rfl, rfl⟩
theorem J_rangeCheck_59 : ja_at prog_16_method_30_code 59 60 (.iload_n 2) 1 := ⟨by decide +kernel, rfl⟩
theorem J_rangeCheck_60 : ja_at prog_16_method_30_code 60 61 (.iload_n 0) 1 := ⟨by decide +kernel, rfl⟩
theorem J_rangeCheck_61 : ja_to prog_16_method_30_code 61 64 73 (.if_icmp .le 12) 12 := ⟨by decide +kernel, rfl, rfl⟩
theorem J_rangeCheck_73 : ja_at prog_16_method_30_code 73 74 .return_ 1 := ⟨by decide +kernel, rfl⟩
section JFILL
variable (l : Launch) (D : va_G) (g : Nat × Nat)
set_option maxHeartbeats 4000000 in
set_option maxRecDepth 100000 in
theorem c_J_fillI {X : ja_H} {q n : Nat} {v : Int32} {f : Nat → Int32} (h : X[q]? = some (.inl (0, n, .inl f))) (hn : n < 2 ^ 31) : AMet l D g 0 0 0 m_J_fillI [.ref q, .int v] X (fun r X' => r = none ∧ X' = X.set q (.inl (0, n, .inl (jfl f 0 n v)))) := by
  have hlt := (List.getElem?_eq_some_iff.mp h).1
  refine ja_metK (by decide) rfl (Nat.le_of_ble_eq_true rfl) fun K hB hF => ?_
  have loop : ∀ k i, i + k = n → K 5 [.ref q, .int v, .int (nI i), .int (nI n)] [] (X.set q (.inl (0, n, .inl (jfl f 0 i v)))) 0 0 := by
    intro k
    induction k with
    | zero =>
      intro i hi
      refine kw_iload_n hB J_fillI_5 rfl ?_
      refine kw_iload_n hB J_fillI_6 rfl ?_
      refine kn_icmp_ge hB J_fillI_7 (by omega) (by omega) (fun hc => ?_) (fun hc => absurd hc (by omega))
      refine kw_vret hF rfl J_fillI_20 ?_ (by first | (simp [jLs_len]; done) | (simp [*]; done))
      refine ⟨rfl, ?_⟩
      rw [show i = n by omega]
    | succ k ih =>
      intro i hi
      refine kw_iload_n hB J_fillI_5 rfl ?_
      refine kw_iload_n hB J_fillI_6 rfl ?_
      refine kn_icmp_ge hB J_fillI_7 (by omega) (by omega) (fun hc => absurd hc (by omega)) (fun hc => ?_)
      refine kw_aload_n hB J_fillI_10 rfl ?_
      refine kw_iload_n hB J_fillI_11 rfl ?_
      refine kw_iload_n hB J_fillI_12 rfl ?_
      refine kn_iast hB J_fillI_13 (List.getElem?_set_self hlt) rfl (by omega) (by first | decide | omega) ?_
      refine kn_iinc hB J_fillI_14 rfl (by decide) rfl ?_
      refine kw_goto hB J_fillI_17 ?_
      rw [List.set_set, jfl_upd f (by omega)]
      exact ih (i + 1) (by omega)
  refine kw_iconst hB J_fillI_0 (v := nI 0) (by decide) ?_
  refine kw_istore_n hB J_fillI_1 rfl (by decide) rfl ?_
  refine kw_aload_n hB J_fillI_2 rfl ?_
  refine kw_alen hB J_fillI_3 h rfl (v := nI n) rfl ?_
  refine kw_istore_n hB J_fillI_4 rfl (by decide) rfl ?_
  have := loop n 0 (by omega)
  rw [jfl_0, ja_set_self h] at this
  exact this
set_option maxHeartbeats 4000000 in
set_option maxRecDepth 100000 in
theorem c_J_rangeCheck {X : ja_H} {n a b : Nat} (hn : n < 2 ^ 31) (h1 : a ≤ b) (h2 : b ≤ n) : AMet l D g 0 0 0 m_J_rangeCheck [.int (nI n), .int (nI a), .int (nI b)] X (fun r X' => r = none ∧ X' = X) := by
  refine ja_metK (by decide) rfl (Nat.le_of_ble_eq_true rfl) fun K hB hF => ?_
  refine kw_iload_n hB J_rangeCheck_0 rfl ?_
  refine kw_iload_n hB J_rangeCheck_1 rfl ?_
  refine kn_icmp_le hB J_rangeCheck_2 (by omega) (by omega) (fun hc => ?_) (fun hc => absurd hc (by omega))
  refine kw_iload_n hB J_rangeCheck_46 rfl ?_
  refine kw_if_ge hB J_rangeCheck_47 (fun hc => ?_) (fun hc => absurd (nI_pos' (by omega)) hc)
  refine kw_iload_n hB J_rangeCheck_59 rfl ?_
  refine kw_iload_n hB J_rangeCheck_60 rfl ?_
  refine kn_icmp_le hB J_rangeCheck_61 (by omega) (by omega) (fun hc => ?_) (fun hc => absurd hc (by omega))
  refine kw_vret hF rfl J_rangeCheck_73 ?_ (by first | (simp [jLs_len]; done) | (simp [*]; done))
  exact ⟨rfl, rfl⟩
set_option maxHeartbeats 4000000 in
set_option maxRecDepth 100000 in
theorem c_J_fillR {X : ja_H} {q n a b : Nat} {v : Int32} {f : Nat → Int32} (h : X[q]? = some (.inl (0, n, .inl f))) (hn : n < 2 ^ 31) (h1 : a ≤ b) (h2 : b ≤ n) : AMet l D g 1 0 0 m_J_fillR [.ref q, .int (nI a), .int (nI b), .int v] X (fun r X' => r = none ∧ X' = X.set q (.inl (0, n, .inl (jfl f a b v)))) := by
  have hlt := (List.getElem?_eq_some_iff.mp h).1
  refine ja_metK (by decide) rfl (Nat.le_of_ble_eq_true rfl) fun K hB hF => ?_
  have loop : ∀ k i, i + k = b → a ≤ i → K 10 [.ref q, .int (nI a), .int (nI b), .int v, .int (nI i)] [] (X.set q (.inl (0, n, .inl (jfl f a i v)))) 0 0 := by
    intro k
    induction k with
    | zero =>
      intro i hi ha
      refine kw_iload hB J_fillR_10 rfl ?_
      refine kw_iload_n hB J_fillR_12 rfl ?_
      refine kn_icmp_ge hB J_fillR_13 (by omega) (by omega) (fun hc => ?_) (fun hc => absurd hc (by omega))
      refine kw_vret hF rfl J_fillR_27 ?_ (by first | (simp [jLs_len]; done) | (simp [*]; done))
      refine ⟨rfl, ?_⟩
      rw [show i = b by omega]
    | succ k ih =>
      intro i hi ha
      refine kw_iload hB J_fillR_10 rfl ?_
      refine kw_iload_n hB J_fillR_12 rfl ?_
      refine kn_icmp_ge hB J_fillR_13 (by omega) (by omega) (fun hc => absurd hc (by omega)) (fun hc => ?_)
      refine kw_aload_n hB J_fillR_16 rfl ?_
      refine kw_iload hB J_fillR_17 rfl ?_
      refine kw_iload_n hB J_fillR_19 rfl ?_
      refine kn_iast hB J_fillR_20 (List.getElem?_set_self hlt) rfl (by omega) hn ?_
      refine kn_iinc hB J_fillR_21 rfl (by decide) rfl ?_
      refine kw_goto hB J_fillR_24 ?_
      rw [List.set_set, jfl_upd f (by omega)]
      exact ih (i + 1) (by omega) (by omega)
  refine kw_aload_n hB J_fillR_0 rfl ?_
  refine kw_alen hB J_fillR_1 h rfl (v := nI n) rfl ?_
  refine kw_iload_n hB J_fillR_2 rfl ?_
  refine kw_iload_n hB J_fillR_3 rfl ?_
  refine kw_callS hB J_fillR_4 s_J_13 st_J_rangeCheck (As := [.int (nI n), .int (nI a), .int (nI b)]) (c_J_rangeCheck l D g hn h1 h2) rfl (by decide) (Nat.le_of_ble_eq_true rfl) (by omega) (by omega) (fun r X1 hq hl => ?_)
  obtain ⟨rfl, rfl⟩ := hq
  refine kw_iload_n hB J_fillR_7 rfl ?_
  refine kw_istore hB J_fillR_8 (by decide) rfl ?_
  have := loop (b - a) a (by omega) (Nat.le_refl _)
  rw [jfl_0, ja_set_self h] at this
  exact this
set_option maxHeartbeats 4000000 in
set_option maxRecDepth 100000 in
theorem c_J_fillL {X : ja_H} {q n : Nat} {v : Int64} {f : Nat → Int64} (h : X[q]? = some (.inl (1, n, .inr (.inl f)))) (hn : n < 2 ^ 31) : AMet l D g 0 0 0 m_J_fillL [.ref q, .long v] X (fun r X' => r = none ∧ X' = X.set q (.inl (1, n, .inr (.inl (jfl f 0 n v))))) := by
  have hlt := (List.getElem?_eq_some_iff.mp h).1
  refine ja_metK (by decide) rfl (Nat.le_of_ble_eq_true rfl) fun K hB hF => ?_
  have loop : ∀ k i, i + k = n → K 6 [.ref q, .long v, .retAddr 0, .int (nI i), .int (nI n)] [] (X.set q (.inl (1, n, .inr (.inl (jfl f 0 i v))))) 0 0 := by
    intro k
    induction k with
    | zero =>
      intro i hi
      refine kw_iload_n hB J_fillL_6 rfl ?_
      refine kw_iload hB J_fillL_7 rfl ?_
      refine kn_icmp_ge hB J_fillL_9 (by omega) (by omega) (fun hc => ?_) (fun hc => absurd hc (by omega))
      refine kw_vret hF rfl J_fillL_22 ?_ (by first | (simp [jLs_len]; done) | (simp [*]; done))
      refine ⟨rfl, ?_⟩
      rw [show i = n by omega]
    | succ k ih =>
      intro i hi
      refine kw_iload_n hB J_fillL_6 rfl ?_
      refine kw_iload hB J_fillL_7 rfl ?_
      refine kn_icmp_ge hB J_fillL_9 (by omega) (by omega) (fun hc => absurd hc (by omega)) (fun hc => ?_)
      refine kw_aload_n hB J_fillL_12 rfl ?_
      refine kw_iload_n hB J_fillL_13 rfl ?_
      refine kw_lload_n hB J_fillL_14 rfl ?_
      refine kn_last hB J_fillL_15 (List.getElem?_set_self hlt) rfl (by omega) hn ?_
      refine kn_iinc hB J_fillL_16 rfl (by decide) rfl ?_
      refine kw_goto hB J_fillL_19 ?_
      rw [List.set_set, jfl_updL f (by omega)]
      exact ih (i + 1) (by omega)
  refine kw_iconst hB J_fillL_0 (v := nI 0) (by decide) ?_
  refine kw_istore_n hB J_fillL_1 rfl (by decide) rfl ?_
  refine kw_aload_n hB J_fillL_2 rfl ?_
  refine kw_alen hB J_fillL_3 h rfl (v := nI n) rfl ?_
  refine kw_istore hB J_fillL_4 (by decide) rfl ?_
  have := loop n 0 (by omega)
  rw [jfl_0, ja_set_self h] at this
  exact this
end JFILL
