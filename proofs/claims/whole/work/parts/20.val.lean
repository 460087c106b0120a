-- a language as a value: n states, the set gd of good ones, ways x; and frames
def jLv (X : ja_H) (q n gd : Nat) (x : Nat → Nat) : Prop := ∃ f, jLr X q (nI n) (nI gd) f ∧ (∀ i, i < n * 8 → f i = nI (x i)) ∧ n ≤ 24 ∧ 1 ≤ n ∧ gd < 2 ^ 24 ∧ ∀ i, i < n * 8 → x i < n
def jfr (S : List Nat) (X X' : ja_H) : Prop := X'.length = X.length ∧ ∀ k, k ∉ S → X'[k]? = X[k]?
/-- a language of whatever contents -/
def jLx (X : ja_H) (q : Nat) : Prop := ∃ n gd f, jLr X q n gd f
theorem jLv.x {X : ja_H} {q n gd : Nat} {x : Nat → Nat} (h : jLv X q n gd x) : jLx X q := ⟨_, _, _, h.choose_spec.1⟩
theorem jfr.rf (S : List Nat) (X : ja_H) : jfr S X X := ⟨rfl, fun _ _ => rfl⟩
theorem jfr.tr {S : List Nat} {X Y Z : ja_H} (h1 : jfr S X Y) (h2 : jfr S Y Z) : jfr S X Z := ⟨h2.1.trans h1.1, fun k hk => (h2.2 k hk).trans (h1.2 k hk)⟩
theorem jfr.mono {S T : List Nat} {X Y : ja_H} (h : jfr S X Y) (hs : ∀ k ∈ S, k ∈ T) : jfr T X Y := ⟨h.1, fun k hk => h.2 k (fun z => hk (hs k z))⟩
theorem jfr.at {S : List Nat} {X Y : ja_H} {k : Nat} {c : ja_C} (h : jfr S X Y) (hk : k ∉ S) (hc : X[k]? = some c) : Y[k]? = some c := by rw [h.2 k hk]; exact hc
theorem jLr.fr {S : List Nat} {X Y : ja_H} {q : Nat} {n gd : Int32} {f : Nat → Int32} (h : jLr X q n gd f) (hf : jfr S X Y) (h1 : q ∉ S) (h2 : q + 1 ∉ S) : jLr Y q n gd f := ⟨hf.at h1 h.1, hf.at h2 h.2⟩
theorem jLv.fr {S : List Nat} {X Y : ja_H} {q n gd : Nat} {x : Nat → Nat} (h : jLv X q n gd x) (hf : jfr S X Y) (h1 : q ∉ S) (h2 : q + 1 ∉ S) : jLv Y q n gd x := by
  obtain ⟨f, a, b⟩ := h
  exact ⟨f, a.fr hf h1 h2, b⟩
theorem jLx.fr {S : List Nat} {X Y : ja_H} {q : Nat} (h : jLx X q) (hf : jfr S X Y) (h1 : q ∉ S) (h2 : q + 1 ∉ S) : jLx Y q := by
  obtain ⟨n, gd, f, a⟩ := h
  exact ⟨n, gd, f, a.fr hf h1 h2⟩
theorem jLs_fr (X : ja_H) (q : Nat) (n g : Int32) (f : Nat → Int32) : jfr [q, q + 1] X (jLs X q n g f) := ⟨jLs_len _ _ _ _ _, fun k hk => by
  simp only [List.mem_cons, List.not_mem_nil, or_false, not_or] at hk
  exact jLs_ne _ _ _ hk.1 hk.2⟩
theorem jset_fr (X : ja_H) (q : Nat) (c : ja_C) : jfr [q] X (X.set q c) := ⟨by simp, fun k hk => by
  simp only [List.mem_cons, List.not_mem_nil, or_false] at hk
  rw [List.getElem?_set_ne (fun e => hk e.symm)]⟩
theorem jLv.good {X : ja_H} {q n gd : Nat} {x : Nat → Nat} (h : jLv X q n gd x) : n ≤ 24 ∧ 1 ≤ n ∧ gd < 2 ^ 24 ∧ ∀ i, i < n * 8 → x i < n := by
  obtain ⟨f, -, -, a⟩ := h
  exact a
section JV
variable (l : Launch) (D : va_G) (g : Nat × Nat)
theorem v_L_after {X : ja_H} {q n gd s c : Nat} {x : Nat → Nat} (h : jLv X q n gd x) (hs : s < n) (h1 : 1 ≤ c) (h8 : c ≤ 8) : AMet l D g 0 0 0 m_L_after [.ref q, .int (nI s), .int (nI c)] X (fun r X' => r = some (.int (nI (x (s * 8 + c - 1)))) ∧ X' = X) := by
  obtain ⟨f, a, b, hn, -⟩ := h
  exact (c_L_after l D g a h1 (by omega)).post (fun r X' hq => ⟨by rw [hq.1, b _ (by omega)], hq.2⟩)
theorem v_L_isGood {X : ja_H} {q n gd s : Nat} {x : Nat → Nat} (h : jLv X q n gd x) (hs : s < n) : AMet l D g 0 0 0 m_L_isGood [.ref q, .int (nI s)] X (fun r X' => r = some (.int (nI (gd.testBit s).toNat)) ∧ X' = X) := by
  obtain ⟨f, a, b, hn, -, hg, -⟩ := h
  exact c_L_isGood l D g a (by omega) (by omega)
theorem v_L_hasGood {X : ja_H} {q n gd S : Nat} {x : Nat → Nat} (h : jLv X q n gd x) : AMet l D g 0 0 0 m_L_hasGood [.ref q, .int (nI S)] X (fun r X' => r = some (.int (nI (decide (gd &&& S ≠ 0)).toNat)) ∧ X' = X) := by
  obtain ⟨f, a, b, hn, -, hg, -⟩ := h
  exact c_L_hasGood l D g a (by omega)
theorem v_L_isEmpty {X : ja_H} {q n gd : Nat} {x : Nat → Nat} (h : jLv X q n gd x) : AMet l D g 0 0 0 m_L_isEmpty [.ref q] X (fun r X' => r = some (.int (nI (decide (n = 1 ∧ gd = 0)).toNat)) ∧ X' = X) := by
  obtain ⟨f, a, b, hn, -, hg, -⟩ := h
  exact c_L_isEmpty l D g a (by omega) (by omega)
theorem v_L_copy {X : ja_H} {q p n gd : Nat} {x : Nat → Nat} (h0 : jLx X q) (h : jLv X p n gd x) (hqp : q ≠ p) : AMet l D g 1 0 0 m_L_copy [.ref q, .ref p] X (fun r X' => r = none ∧ jLv X' q n gd x ∧ jfr [q, q + 1] X X') := by
  obtain ⟨n0, g0, f0, a0⟩ := h0
  obtain ⟨f, a, b, hn, h1, hg, hx⟩ := h
  refine (c_L_copy l D g a0 a hqp hn).post (fun r X' hq => ⟨hq.1, ?_, ?_⟩)
  · rw [hq.2]
    refine ⟨_, jLs_r _ _ _ a0.lt, fun i hi => ?_, hn, h1, hg, hx⟩
    rw [pk_cpy_in (Nat.zero_le _) (by omega), Nat.zero_add, Nat.sub_zero, b i hi]
  · rw [hq.2]; exact jLs_fr _ _ _ _ _
end JV
