-- TaintScanner: its state; the lines
def jin (m : Nat) (x : Int32) : Bool := decide (0 ≤ x.toInt ∧ x.toInt < (m : Int))
def jv (x : Int32) : Nat := x.toInt.toNat
theorem jin_nI {m k : Nat} (hk : k < 2 ^ 31) : jin m (nI k) = decide (k < m) := by
  unfold jin
  rw [nI_toInt hk]
  by_cases h : k < m
  · rw [decide_eq_true h, decide_eq_true ⟨by omega, by omega⟩]
  · rw [decide_eq_false h, decide_eq_false (by omega)]
theorem jv_nI {k : Nat} (hk : k < 2 ^ 31) : jv (nI k) = k := by unfold jv; rw [nI_toInt hk]; rfl
theorem jin_neg {m : Nat} {x : Int32} (h : x < 0) : jin m x = false := by
  have := Int32.lt_iff_toInt_lt.mp h
  have h0 : (0 : Int32).toInt = 0 := by decide
  unfold jin
  rw [decide_eq_false (by omega)]
theorem jin_v {m : Nat} {x : Int32} (h : jin m x = true) (hm : m ≤ 2 ^ 31) : x = nI (jv x) ∧ jv x < m := by
  by_cases hx : x < 0
  · rw [jin_neg hx] at h; cases h
  · obtain ⟨k, hk, rfl⟩ := nI_of hx
    rw [jin_nI hk] at h
    rw [jv_nI hk]
    exact ⟨rfl, of_decide_eq_true h⟩
/-- a constant, as a number of 64 bits -/
def jcw (x : Int32) : Nat := x.toInt64.toBitVec.toNat
theorem jcw_eq (x : Int32) : x.toInt64 = lN (jcw x) ∧ jcw x < 2 ^ 64 := ⟨by
  apply Int64.toBitVec_inj.mp
  show _ = BitVec.ofNat 64 (x.toInt64.toBitVec.toNat)
  simp, x.toInt64.toBitVec.isLt⟩
def jokc (x : Int32) : Bool := jokw 6 4 (jcw x)
theorem jokc_v {x : Int32} (h : jokc x = true) : x = nI (jcw x) ∧ jdg 4 (jcw x) ∧ jcw x < 2 ^ 24 := by
  obtain ⟨h1, h2⟩ := (jokw_iff 4 6 (jcw x)).mp h
  have h3 : jcw x < 2 ^ 24 := h2
  refine ⟨?_, h1, h3⟩
  by_cases hx : x < 0
  · exfalso
    have hlt := Int32.lt_iff_toInt_lt.mp hx
    have h0 : (0 : Int32).toInt = 0 := by decide
    have e : (x.toInt64).toInt = x.toInt := by simp
    have e2 := (jcw_eq x).1
    have e3 : (lN (jcw x)).toInt = (jcw x : Int) := by
      show (Int64.ofNat (jcw x)).toInt = _
      rw [Int64.toInt_ofNat_of_lt (by omega)]
    rw [e2, e3] at e
    omega
  · obtain ⟨k, hk, rfl⟩ := nI_of hx
    have e : ((nI k).toInt64).toInt = k := by rw [Int32.toInt_toInt64, nI_toInt hk]
    have e2 := (jcw_eq (nI k)).1
    have e3 : (lN (jcw (nI k))).toInt = (jcw (nI k) : Int) := by
      show (Int64.ofNat (jcw (nI k))).toInt = _
      rw [Int64.toInt_ofNat_of_lt (by omega)]
    rw [e2, e3] at e
    rw [show jcw (nI k) = k by omega]
def jCS : List Nat := List.range' 1 144
theorem jCS_mem {k : Nat} : k ∈ jCS ↔ 1 ≤ k ∧ k < 145 := by rw [jCS, List.mem_range'_1]
def jCl (X : ja_H) (n s : Nat) (K V A B M L : Nat → Nat) (σ : Nat → List (Nat × Nat)) (md : Bool) (ip wd pl : Nat → Nat) (hn : Nat) (ed : Int32) : Prop :=
  X[1]? = some (.inr (9, [.ref 2, .ref 11, .ref 140])) ∧ jPP n s K V A B M L σ ∧ jPx X n s K V A B M L σ ∧
  (∃ un rd, jA0 X (nI md.toNat) un rd ∧ (md = true → σ n = [] ∧ un = nI (jUn (fun k => jWt (jSn (jFin n K V A B M L) k)) s) ∧ ∀ i, i < n → K i = 7 → rd i = nI ((jFin n K V A B M L).2.1 i))) ∧
  (∃ sk, jSk X sk ∧ (md = true → sk = (jFin n K V A B M L).2.2.2.2.2)) ∧ jLv X 25 4 14 jatx ∧
  (∃ c wt, jWv X c wt ∧ (md = true → c = s ∧ wt = fun k => jWt (jSn (jFin n K V A B M L) k))) ∧ (∃ val, jNv X 140 ip val wd pl hn ed) ∧ hn ≤ 1000
theorem jA0.md {X : ja_H} {md md' un : Int32} {rd : Nat → Int32} (h : jA0 X md un rd) : ∃ Y, Y = X.set 11 (.inr (7, [.ref 12, .ref 13, .int md', .int un, .ref 14, .ref 21, .ref 22, .ref 23, .ref 24, .ref 25, .ref 27, .ref 29, .ref 31, .ref 40, .ref 45, .ref 50, .ref 53])) ∧ jA0 Y md' un rd ∧ jfr [11] X Y := by
  refine ⟨_, rfl, ?_, jset_fr X 11 _⟩
  have hf := jset_fr X 11 (.inr (7, [.ref 12, .ref 13, .int md', .int un, .ref 14, .ref 21, .ref 22, .ref 23, .ref 24, .ref 25, .ref 27, .ref 29, .ref 31, .ref 40, .ref 45, .ref 50, .ref 53]))
  obtain ⟨a1, a2, a3, a4, a5, a6, a7, a8, a9⟩ := h
  have no : ∀ k, k ≠ 11 → k ∉ [11] := fun k h1 z => h1 (List.mem_singleton.mp z)
  have hm : ∀ k ∈ [11], k = 11 := fun k z => List.mem_singleton.mp z
  exact ⟨List.getElem?_set_self (List.getElem?_eq_some_iff.mp a1).1, a2.fr hf (fun k hk => by have := hm k hk; omega), a3.fr hf (no _ (by decide)), a4.fr hf (no _ (by decide)), a5.fr hf (no _ (by decide)), fun v hv => (a6 v hv).fr hf (no _ (by omega)) (no _ (by omega)), fun v hv => (a7 v hv).fr hf (no _ (by omega)) (no _ (by omega)), fun v hv => (a8 v hv).fr hf (no _ (by omega)) (no _ (by omega)), hf.at (no _ (by decide)) a9⟩
theorem jA0.fr {S : List Nat} {X Y : ja_H} {md un : Int32} {rd : Nat → Int32} (h : jA0 X md un rd) (hf : jfr S X Y) (hS : ∀ k ∈ S, k < 11 ∨ 140 ≤ k) : jA0 Y md un rd := by
  obtain ⟨a1, a2, a3, a4, a5, a6, a7, a8, a9⟩ := h
  have no : ∀ k, 11 ≤ k → k < 140 → k ∉ S := fun k h1 h2 z => by have := hS k z; omega
  exact ⟨hf.at (no _ (by decide) (by decide)) a1, a2.fr hf (fun k hk => by have := hS k hk; omega), a3.fr hf (no _ (by decide) (by decide)), a4.fr hf (no _ (by decide) (by decide)), a5.fr hf (no _ (by decide) (by decide)), fun v hv => (a6 v hv).fr hf (no _ (by omega) (by omega)) (no _ (by omega) (by omega)), fun v hv => (a7 v hv).fr hf (no _ (by omega) (by omega)) (no _ (by omega) (by omega)), fun v hv => (a8 v hv).fr hf (no _ (by omega) (by omega)) (no _ (by omega) (by omega)), hf.at (no _ (by decide) (by decide)) a9⟩
theorem jNv.fr {S : List Nat} {X Y : ja_H} {q : Nat} {ip val wd pl : Nat → Nat} {hn : Nat} {ed : Int32} (h : jNv X q ip val wd pl hn ed) (hf : jfr S X Y) (hS : ∀ k ∈ S, k < q ∨ q + 4 < k) : jNv Y q ip val wd pl hn ed := by
  obtain ⟨ipf, plf, wdf, vlf, ⟨b1, b2, b3, b4, b5⟩, c⟩ := h
  have no : ∀ i, i ≤ 4 → q + i ∉ S := fun i hi z => by have := hS _ z; omega
  exact ⟨ipf, plf, wdf, vlf, ⟨hf.at (no 0 (by decide)) b1, hf.at (no 1 (by decide)) b2, hf.at (no 2 (by decide)) b3, hf.at (no 3 (by decide)) b4, hf.at (no 4 (by decide)) b5⟩, c⟩
/-- nothing of the analysis holds any more -/
theorem jCl.fr {S : List Nat} {X Y : ja_H} {n s : Nat} {K V A B M L : Nat → Nat} {σ : Nat → List (Nat × Nat)} {md : Bool} {ip wd pl : Nat → Nat} {hn : Nat} {ed : Int32} (h : jCl X n s K V A B M L σ md ip wd pl hn ed) (hf : jfr S X Y) (hS : ∀ k ∈ S, 145 ≤ k) : jCl Y n s K V A B M L σ md ip wd pl hn ed := by
  obtain ⟨a1, a2, a3, ⟨un, rd, a4, a4'⟩, ⟨sk, a5, a5'⟩, a6, ⟨c, wt, a7, a7'⟩, ⟨val, a8⟩, a9⟩ := h
  have no : ∀ k, k < 145 → k ∉ S := fun k h1 z => by have := hS k z; omega
  exact ⟨hf.at (no _ (by decide)) a1, a2, a3.fr hf (fun k hk => by have := hS k hk; omega), ⟨un, rd, a4.fr hf (fun k hk => by have := hS k hk; omega), a4'⟩, ⟨sk, a5.fr hf (fun k hk => by have := hS k hk; omega), a5'⟩, a6.fr hf (no _ (by decide)) (no _ (by decide)), ⟨c, wt, a7.fr hf (fun k hk => by have := hS k hk; omega), a7'⟩, ⟨val, a8.fr hf (fun k hk => by have := hS k hk; omega)⟩, a9⟩
section JT1
variable (l : Launch) (D : va_G) (g : Nat × Nat) {X : ja_H} {n s : Nat} {K V A B M L : Nat → Nat} {σ : Nat → List (Nat × Nat)} {md : Bool} {ip wd pl : Nat → Nat} {hn : Nat} {ed : Int32}
set_option maxHeartbeats 4000000 in
set_option maxRecDepth 100000 in
theorem c_A_forget {md un : Int32} {rd : Nat → Int32} (h : jA0 X md un rd) : AMet l D g 0 0 0 m_A_forget [.ref 11] X (fun r X' => r = none ∧ jA0 X' (nI 0) un rd ∧ jfr [11] X X') := by
  refine ja_metK (by decide) rfl (Nat.le_of_ble_eq_true rfl) fun K hB hF => ?_
  refine kw_aload_n hB A_forget_0 rfl ?_
  refine kw_iconst hB A_forget_1 (v := nI 0) (by decide) ?_
  refine kw_putf hB A_forget_2 f_A_95 jc_A jw_A_2 h.1 (Nat.le_of_ble_eq_true rfl) rfl rfl ?_
  obtain ⟨Y, e, h1, h2⟩ := h.md (md' := nI 0)
  refine kw_vret hF rfl A_forget_5 ⟨rfl, ?_⟩ (by simp)
  subst e
  exact ⟨h1, h2⟩
set_option maxHeartbeats 4000000 in
set_option maxRecDepth 100000 in
theorem c_T_isVariable {x : Int32} : AMet l D g 0 0 0 m_T_isVariable [.int x] X (fun r X' => r = some (.int (nI (jin 5 x).toNat)) ∧ X' = X) := by
  refine ja_metK (by decide) rfl (Nat.le_of_ble_eq_true rfl) fun K hB hF => ?_
  have no : jin 5 x = false → K 13 [.int x] [] X 0 0 := by
    intro h
    refine kw_iconst hB T_isVariable_13 (v := nI 0) (by decide) ?_
    refine kw_zret hF rfl (by first | rfl | decide) T_isVariable_14 ?_ (by first | (simp [jLs_len]; done) | (simp [*]; done))
    exact ⟨by rw [h]; rfl, rfl⟩
  refine kw_iload_n hB T_isVariable_0 rfl ?_
  refine kw_if_lt hB T_isVariable_1 (fun hc => no (jin_neg hc)) (fun hc => ?_)
  obtain ⟨j, hj, rfl⟩ := nI_of hc
  refine kw_iload_n hB T_isVariable_4 rfl ?_
  refine kw_iconst hB T_isVariable_5 (v := nI 5) (by decide) ?_
  refine kn_icmp_ge hB T_isVariable_6 (by omega) (by decide) (fun h1 => no ?_) (fun h1 => ?_)
  · rw [jin_nI hj, decide_eq_false (by omega)]
  · refine kw_iconst hB T_isVariable_9 (v := nI 1) (by decide) ?_
    refine kw_goto hB T_isVariable_10 ?_
    refine kw_zret hF rfl (by first | rfl | decide) T_isVariable_14 ?_ (by first | (simp [jLs_len]; done) | (simp [*]; done))
    exact ⟨by rw [jin_nI hj, decide_eq_true h1]; rfl, rfl⟩
set_option maxHeartbeats 4000000 in
set_option maxRecDepth 100000 in
theorem c_T_isInput {x : Int32} : AMet l D g 0 0 0 m_T_isInput [.int x] X (fun r X' => r = some (.int (nI (jin 3 x).toNat)) ∧ X' = X) := by
  refine ja_metK (by decide) rfl (Nat.le_of_ble_eq_true rfl) fun K hB hF => ?_
  have no : jin 3 x = false → K 13 [.int x] [] X 0 0 := by
    intro h
    refine kw_iconst hB T_isInput_13 (v := nI 0) (by decide) ?_
    refine kw_zret hF rfl (by first | rfl | decide) T_isInput_14 ?_ (by first | (simp [jLs_len]; done) | (simp [*]; done))
    exact ⟨by rw [h]; rfl, rfl⟩
  refine kw_iload_n hB T_isInput_0 rfl ?_
  refine kw_if_lt hB T_isInput_1 (fun hc => no (jin_neg hc)) (fun hc => ?_)
  obtain ⟨j, hj, rfl⟩ := nI_of hc
  refine kw_iload_n hB T_isInput_4 rfl ?_
  refine kw_iconst hB T_isInput_5 (v := nI 3) (by decide) ?_
  refine kn_icmp_ge hB T_isInput_6 (by omega) (by decide) (fun h1 => no ?_) (fun h1 => ?_)
  · rw [jin_nI hj, decide_eq_false (by omega)]
  · refine kw_iconst hB T_isInput_9 (v := nI 1) (by decide) ?_
    refine kw_goto hB T_isInput_10 ?_
    refine kw_zret hF rfl (by first | rfl | decide) T_isInput_14 ?_ (by first | (simp [jLs_len]; done) | (simp [*]; done))
    exact ⟨by rw [jin_nI hj, decide_eq_true h1]; rfl, rfl⟩
/-- behind a call that adds a line, if ok says so -/
def jAdd (X : ja_H) (n s : Nat) (K V A B M L : Nat → Nat) (σ : Nat → List (Nat × Nat)) (ip wd pl : Nat → Nat) (hn : Nat) (ed : Int32) (ok : Bool) (k v a b : Nat) (r : Option Value) (X' : ja_H) : Prop :=
  (ok = true → n < 24 → r = some (.int (nI (n + 1))) ∧ jCl X' (n + 1) (if k = 4 then s + 1 else s) (va_up K n k) (va_up V n v) (va_up A n a) (va_up B n b) (jNM M (σ n) k n) (jNL L (σ n) k n) (va_up σ (n + 1) (jNx (σ n) k n)) false ip wd pl hn ed ∧ jfr jCS X X') ∧ (ok = false ∨ n = 24 → r = some (.int (-1)) ∧ X' = X)
theorem jAdd_no {ok : Bool} {k v a b : Nat} (h : ok = false) : jAdd X n s K V A B M L σ ip wd pl hn ed ok k v a b (some (.int (-1))) X := ⟨fun z => absurd (h.symm.trans z) (by decide), fun _ => ⟨rfl, rfl⟩⟩
set_option maxHeartbeats 8000000 in
set_option maxRecDepth 100000 in
theorem c_T_addLine {k v a b : Nat} (h : jCl X n s K V A B M L σ md ip wd pl hn ed) (hlk : jLn k v a b) (h4 : k = 4 → s < 6 ∧ a = s) (hm : jMay K (σ n) k) : AMet l D g 2 0 0 m_T_addLine [.ref 1, .int (nI k), .int (nI v), .int (nI a), .int (nI b)] X (jAdd X n s K V A B M L σ ip wd pl hn ed true k v a b) := by
  obtain ⟨a1, a2, ⟨kd, vr, fs, sc, mt, lv, pt, hd, r, rl, rs⟩, ⟨un, rd, a4, a4'⟩, ⟨sk, a5, a5'⟩, a6, ⟨c, wt, a7, a7'⟩, ⟨val, a8⟩, a9⟩ := h
  have hn24 := a2.1
  have hlen := a2.2.2.1.len (Nat.le_refl n)
  refine ja_metK (by decide) rfl (Nat.le_of_ble_eq_true rfl) fun K9 hB hF => ?_
  refine kw_aload_n hB T_addLine_0 rfl ?_
  refine kw_getf hB T_addLine_1 f_T_10 a1 rfl ?_
  refine kw_getf hB T_addLine_4 f_T_60 r.1 rfl ?_
  refine kw_bipush hB T_addLine_7 (v := nI 24) (by decide) ?_
  refine kn_icmp_ne hB T_addLine_9 (by omega) (by decide) (fun hc => ?_) (fun hc => ?_)
  · have hlt : n < 24 := by omega
    refine kw_aload_n hB T_addLine_14 rfl ?_
    refine kw_getf hB T_addLine_15 f_T_19 a1 rfl ?_
    refine kw_callV hB T_addLine_18 s_T_66 im_A_forget se_A_forget a4.1 rfl rfl (As := []) (c_A_forget l D g a4) rfl (by decide) (Nat.le_of_ble_eq_true rfl) (by omega) (by omega) (fun r X1 hq hl => ?_)
    obtain ⟨rfl, f1, f2⟩ := hq
    have m11 : ∀ j ∈ [11], j = 11 := fun j hj => List.mem_singleton.mp hj
    have n11 : ∀ j, j ≠ 11 → j ∉ [11] := fun j hj z => hj (List.mem_singleton.mp z)
    have r1 := r.fr f2 (fun j hj => by have := m11 j hj; omega)
    have b1 := f2.at (n11 1 (by decide)) a1
    refine kw_aload_n hB T_addLine_21 rfl ?_
    refine kw_getf hB T_addLine_22 f_T_10 b1 rfl ?_
    refine kw_iload_n hB T_addLine_25 rfl ?_
    refine kw_iload_n hB T_addLine_26 rfl ?_
    refine kw_iload_n hB T_addLine_27 rfl ?_
    refine kw_iload hB T_addLine_28 rfl ?_
    obtain ⟨w, hw1, hw2⟩ : ∃ w, (∀ x t, σ n = x :: t → x.2 = w) ∧ (k = 6 ∨ k = 8 ∨ k = 9 → 1 ≤ (σ n).length ∧ (σ n).length ≤ 3 ∧ pt ((σ n).length - 1) = nI w ∧ w < 24) := by
      cases hσ : σ n with
      | nil =>
        refine ⟨0, fun x t e => (by cases e), fun z => ?_⟩
        exfalso
        rcases z with z | z | z
        · obtain ⟨_, _, e, -⟩ := hm.2.1 z; rw [hσ] at e; cases e
        · obtain ⟨_, _, _, e, -⟩ := hm.2.2.1 z; rw [hσ] at e; cases e
        · obtain ⟨_, _, _, e, -⟩ := hm.2.2.2 z; rw [hσ] at e; cases e
      | cons y t0 =>
        refine ⟨y.2, fun x t e => by rw [← (List.cons.inj e).1], fun _ => ⟨by simp, by rw [← hσ]; exact hlen, ?_, ?_⟩⟩
        · exact (rs [] y t0 hσ).1
        · have := (a2.2.2.1.top n (Nat.le_refl _) y.1 y.2 t0 hσ).2.1; omega
    refine kw_callV hB T_addLine_30 s_T_137 im_R_add se_R_add r1.1 rfl rfl (As := [.int (nI k), .int (nI v), .int (nI a), .int (nI b)]) (c_R_add l D g (w := w) r1 hlt hlk.1 hm.1 hw2) rfl (by decide) (Nat.le_of_ble_eq_true rfl) (by omega) (by omega) (fun r X1 hq hl => ?_)
    obtain ⟨rfl, g1, g2, g3, g4, g5, g6⟩ := hq
    have hle := f2.1
    have hle2 := g1.1
    refine kw_iret hF rfl T_addLine_33 ?_ (by omega)
    have m2 : ∀ j ∈ jRrS 2, 2 ≤ j ∧ j ≤ 10 := fun j hj => by simp only [List.mem_cons, List.not_mem_nil, or_false] at hj; omega
    have n2 : ∀ j, j < 2 ∨ 10 < j → j ∉ jRrS 2 := fun j hj z => by have := m2 j z; omega
    refine ⟨fun _ _ => ⟨rfl, ⟨g1.at (n2 _ (by decide)) b1, jPP_add a2 hlt hlk h4 hm, jPx_add a2 hlk hm rl rs hw1 g2 g3 g4 g5 g6, ⟨un, rd, f1.fr g1 (fun j hj => by have := m2 j hj; omega), fun z => (by cases z)⟩, ⟨sk, (a5.fr f2 (fun j hj => by have := m11 j hj; omega)).fr g1 (fun j hj => by have := m2 j hj; omega), fun z => (by cases z)⟩, (a6.fr f2 (n11 _ (by decide)) (n11 _ (by decide))).fr g1 (n2 _ (by decide)) (n2 _ (by decide)), ⟨c, wt, (a7.fr f2 (fun j hj => by have := m11 j hj; omega)).fr g1 (fun j hj => by have := m2 j hj; omega), fun z => (by cases z)⟩, ⟨val, (a8.fr f2 (fun j hj => by have := m11 j hj; omega)).fr g1 (fun j hj => by have := m2 j hj; omega)⟩, a9⟩, (f2.mono (fun j hj => by have := m11 j hj; rw [jCS_mem]; omega)).tr (g1.mono (fun j hj => by have := m2 j hj; rw [jCS_mem]; omega))⟩, fun z => ?_⟩
    rcases z with z | z
    · cases z
    · omega
  · refine kw_iconst hB T_addLine_12 (v := -1) (by decide) ?_
    refine kw_iret hF rfl T_addLine_13 ?_ (by first | (simp [jLs_len]; done) | (simp [*]; done))
    exact ⟨fun _ z => by omega, fun _ => ⟨rfl, rfl⟩⟩
end JT1
