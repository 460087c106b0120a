-- Analysis: its cells; what is worked with; unite
def jAo (X : ja_H) (md un : Int32) : Prop := X[11]? = some (.inr (7, [.ref 12, .ref 13, .int md, .int un, .ref 14, .ref 21, .ref 22, .ref 23, .ref 24, .ref 25, .ref 27, .ref 29, .ref 31, .ref 40, .ref 45, .ref 50, .ref 53]))
/-- what is worked with: of whatever contents -/
def jSc (X : ja_H) : Prop := jLx X 27 ∧ jLx X 29 ∧ jBx X 31 ∧ (∃ ch, jPr X 40 ch) ∧ jLx X 41 ∧ jLx X 43 ∧ jQr X 45 ∧ jLx X 46 ∧ jLx X 48 ∧ jGr X 50 ∧ jLx X 51 ∧ jIx X 53
def jZs : List Nat := List.range' 27 31
theorem jZs_mem {k : Nat} : k ∈ jZs ↔ 27 ≤ k ∧ k < 58 := by rw [jZs, List.mem_range'_1]
theorem jIx.fr {S : List Nat} {X Y : ja_H} {p : Nat} (h : jIx X p) (hf : jfr S X Y) (hS : ∀ k ∈ S, k < p ∨ p + 4 < k) : jIx Y p := by
  obtain ⟨a, mf, sf, ⟨b1, b2, b3⟩, c⟩ := h
  have no : ∀ i, i ≤ 4 → p + i ∉ S := fun i hi z => by have := hS _ z; omega
  exact ⟨a.fr hf (no 1 (by decide)) (no 2 (by decide)), mf, sf, ⟨hf.at (no 0 (by decide)) b1, hf.at (no 3 (by decide)) b2, hf.at (no 4 (by decide)) b3⟩, c⟩
theorem jSc.fr {S : List Nat} {X Y : ja_H} (h : jSc X) (hf : jfr S X Y) (hS : ∀ k ∈ S, k < 27 ∨ 58 ≤ k) : jSc Y := by
  obtain ⟨a1, a2, a3, ⟨ch, a4⟩, a5, a6, a7, a8, a9, a10, a11, a12⟩ := h
  have no : ∀ i, 27 ≤ i → i < 58 → i ∉ S := fun i h1 h2 z => by have := hS _ z; omega
  exact ⟨a1.fr hf (no _ (by decide) (by decide)) (no _ (by decide) (by decide)), a2.fr hf (no _ (by decide) (by decide)) (no _ (by decide) (by decide)), a3.fr hf (fun k hk => by have := hS k hk; omega), ⟨ch, hf.at (no _ (by decide) (by decide)) a4⟩, a5.fr hf (no _ (by decide) (by decide)) (no _ (by decide) (by decide)), a6.fr hf (no _ (by decide) (by decide)) (no _ (by decide) (by decide)), hf.at (no _ (by decide) (by decide)) a7, a8.fr hf (no _ (by decide) (by decide)) (no _ (by decide) (by decide)), a9.fr hf (no _ (by decide) (by decide)) (no _ (by decide) (by decide)), hf.at (no _ (by decide) (by decide)) a10, a11.fr hf (no _ (by decide) (by decide)) (no _ (by decide) (by decide)), a12.fr hf (fun k hk => by have := hS k hk; omega)⟩
/-- behind work with the pair and the automaton -/
theorem jSc.pair {S : List Nat} {X Y : ja_H} (h : jSc X) (hf : jfr S X Y) (hS : ∀ k ∈ S, k < 27 ∨ 58 ≤ k ∨ (31 ≤ k ∧ k < 45)) (b3 : jBx Y 31) {ch : Nat} (b4 : jPr Y 40 ch) (b5 : jLx Y 41) (b6 : jLx Y 43) : jSc Y := by
  obtain ⟨a1, a2, -, -, -, -, a7, a8, a9, a10, a11, a12⟩ := h
  have no : ∀ i, 27 ≤ i → i < 58 → i < 31 ∨ 45 ≤ i → i ∉ S := fun i h1 h2 h3 z => by have := hS _ z; omega
  exact ⟨a1.fr hf (no _ (by decide) (by decide) (by decide)) (no _ (by decide) (by decide) (by decide)), a2.fr hf (no _ (by decide) (by decide) (by decide)) (no _ (by decide) (by decide) (by decide)), b3, ⟨ch, b4⟩, b5, b6, hf.at (no _ (by decide) (by decide) (by decide)) a7, a8.fr hf (no _ (by decide) (by decide) (by decide)) (no _ (by decide) (by decide) (by decide)), a9.fr hf (no _ (by decide) (by decide) (by decide)) (no _ (by decide) (by decide) (by decide)), hf.at (no _ (by decide) (by decide) (by decide)) a10, a11.fr hf (no _ (by decide) (by decide) (by decide)) (no _ (by decide) (by decide) (by decide)), a12.fr hf (fun k hk => by have := hS k hk; omega)⟩
theorem jP_run {xa xb : Nat → Nat} {na nb : Nat} (hb24 : nb ≤ 24) (hxa : ∀ i, i < na * 8 → xa i < na) (hxb : ∀ i, i < nb * 8 → xb i < nb) : ∀ (w : List Nat) i j, i < na → j < nb → jok w → jkr (jPn xa xb) (i * 24 + j) w = jgo xa i w * 24 + jgo xb j w := by
  intro w
  induction w with
  | nil => intro i j _ _ _; rfl
  | cons c w ih =>
    intro i j hi hj hw
    obtain ⟨hc, hw'⟩ := jok_cons.mp hw
    have e : jPn xa xb (i * 24 + j) (c + 1) = xa (i * 8 + c) * 24 + xb (j * 8 + c) := by
      unfold jPn
      rw [show (i * 24 + j) / 24 = i by omega, show (i * 24 + j) % 24 = j by omega, show i * 8 + (c + 1) - 1 = i * 8 + c by omega, show j * 8 + (c + 1) - 1 = j * 8 + c by omega]
    show jkr (jPn xa xb) (jPn xa xb (i * 24 + j) (c + 1)) w = jgo xa (xa (i * 8 + c)) w * 24 + jgo xb (xb (j * 8 + c)) w
    rw [e]
    exact ih _ _ (hxa _ (by omega)) (hxb _ (by omega)) hw'
/-- what the pair's rule takes -/
theorem jP_lang {xa xb : Nat → Nat} {na nb ga gb ch : Nat} (ha1 : 1 ≤ na) (hb1 : 1 ≤ nb) (hb24 : nb ≤ 24) (hxa : ∀ i, i < na * 8 → xa i < na) (hxb : ∀ i, i < nb * 8 → xb i < nb) {w : List Nat} (hw : jok w) : jPg ga gb ch (jkr (jPn xa xb) 0 w) = if ch = 0 then ga.testBit (jgo xa 0 w) || gb.testBit (jgo xb 0 w) else if ch = 1 then ga.testBit (jgo xa 0 w) && gb.testBit (jgo xb 0 w) else ga.testBit (jgo xa 0 w) && !gb.testBit (jgo xb 0 w) := by
  have e := jP_run hb24 hxa hxb w 0 0 (by omega) (by omega) hw
  have hb : jgo xb 0 w < nb := jgo_lt (fun s hs => hxb s (by omega)) w 0 (by omega) hw
  rw [show (0 * 24 + 0) = 0 from rfl] at e
  rw [e]
  unfold jPg
  rw [show (jgo xa 0 w * 24 + jgo xb 0 w) / 24 = jgo xa 0 w by omega, show (jgo xa 0 w * 24 + jgo xb 0 w) % 24 = jgo xb 0 w by omega]
/-- the union of two languages -/
noncomputable def jUni (A B : jLan) : jLan := jMk (fun w => jAc A w || jAc B w)
theorem jUni_same {A : jLan} (h : jOk A) : jUni A A = A := by
  unfold jUni
  rw [jMk_congr (Q := jAc A) (fun w _ => by rw [Bool.or_self]), jMk_ac h]
section JA1
variable (l : Launch) (D : va_G) (g : Nat × Nat) {X : ja_H}
set_option maxHeartbeats 4000000 in
set_option maxRecDepth 100000 in
theorem c_A_unite {a b : Nat} {md un : Int32} {A B : jLan} (h : jAo X md un) (hS : jSc X) (ha : jVal X a A) (hb : jVal X b B) (da : 58 ≤ a) (db : 58 ≤ b) : AMet l D g 4 0 0 m_A_unite [.ref 11, .ref a, .ref b] X (fun r X' => r = none ∧ jVal X' a (jUni A B) ∧ jSc X' ∧ jfr ([a, a + 1] ++ jZs) X X') := by
  have hS0 := hS
  obtain ⟨s1, s2, s3, ⟨ch0, s4⟩, s5, s6, -⟩ := hS
  obtain ⟨na24, na1, -, hxa⟩ := ha.1.good
  obtain ⟨nb24, nb1, -, hxb⟩ := hb.1.good
  refine ja_metK (by decide) rfl (Nat.le_of_ble_eq_true rfl) fun K hB hF => ?_
  refine kw_aload_n hB A_unite_0 rfl ?_
  refine kw_aload_n hB A_unite_1 rfl ?_
  refine kw_callV hB A_unite_2 s_A_221 im_L_isSame se_L_isSame ha.1.choose_spec.1.1 rfl rfl (As := [.ref b]) (w_L_isSame l D g ha hb) rfl (by decide) (Nat.le_of_ble_eq_true rfl) (by omega) (by omega) (fun r X1 hq hl => ?_)
  obtain ⟨rfl, hxeq⟩ := hq
  obtain rfl := hxeq.symm
  refine kn_if_eq hB A_unite_5 (by cases decide (A = B) <;> decide) (fun hz => ?_) (fun hz => ?_)
  · refine kw_aload_n hB A_unite_9 rfl ?_
    refine kw_getf hB A_unite_10 f_A_63 h rfl ?_
    refine kw_aload_n hB A_unite_13 rfl ?_
    refine kw_aload_n hB A_unite_14 rfl ?_
    refine kw_iconst hB A_unite_15 (v := nI 0) (by decide) ?_
    refine kw_callV hB A_unite_16 s_A_154 im_P_use se_P_use s4 rfl rfl (As := [.ref a, .ref b, .int (nI 0)]) (c_P_use l D g (ch := 0) s4 s5 s6 ha.1 hb.1 ⟨by omega, by omega, Or.inr (by omega)⟩ (Or.inr (by omega))) rfl (by decide) (Nat.le_of_ble_eq_true rfl) (by omega) (by omega) (fun r X1 hq hl => ?_)
    obtain ⟨rfl, q1, q2, q3, q4⟩ := hq
    have no : ∀ k, k < 40 ∨ 44 < k → k ∉ [40, 40 + 1, 40 + 2, 40 + 3, 40 + 4] := fun k hk z => by simp only [List.mem_cons, List.not_mem_nil, or_false] at z; omega
    have h1 : jAo X1 md un := q4.at (no 11 (by decide)) h
    have b1 : jBx X1 31 := s3.fr q4 (fun k hk => by simp only [List.mem_cons, List.not_mem_nil, or_false] at hk; omega)
    refine kw_aload_n hB A_unite_19 rfl ?_
    refine kw_getf hB A_unite_20 f_A_56 h1 rfl ?_
    refine kw_aload_n hB A_unite_23 rfl ?_
    refine kw_getf hB A_unite_24 f_A_63 h1 rfl ?_
    refine kw_callV hB A_unite_27 s_A_158 im_B_explore se_B_explore b1.choose_spec.choose_spec.choose_spec.choose_spec.choose_spec.choose_spec.choose_spec.choose_spec.choose_spec.1.1 rfl rfl (As := [.ref 40]) (v_B_explore l D g b1 (jRl_P l D g q1 (by decide) q2 q3 (Or.inr (by decide)))) rfl (by decide) (Nat.le_of_ble_eq_true rfl) (by omega) (by omega) (fun r X1 hq hl => ?_)
    obtain ⟨rfl, x1, x2⟩ := hq
    have noB : ∀ k, k < 31 ∨ 39 < k → k ∉ jBS 31 := fun k hk z => by simp only [List.mem_cons, List.not_mem_nil, or_false] at z; omega
    have h2 : jAo X1 md un := x2.at (noB 11 (by decide)) h1
    have a2 : jLx X1 a := (ha.x.fr q4 (no a (by omega)) (no (a + 1) (by omega))).fr x2 (noB a (by omega)) (noB (a + 1) (by omega))
    refine kw_aload_n hB A_unite_30 rfl ?_
    refine kw_getf hB A_unite_31 f_A_56 h2 rfl ?_
    refine kw_aload_n hB A_unite_34 rfl ?_
    refine kw_callV hB A_unite_35 s_A_190 im_B_reduce se_B_reduce x1.x.choose_spec.choose_spec.choose_spec.choose_spec.choose_spec.choose_spec.choose_spec.choose_spec.choose_spec.1.1 rfl rfl (As := [.ref a]) (w_B_reduce l D g x1 a2 (Or.inr (by omega))) rfl (by decide) (Nat.le_of_ble_eq_true rfl) (by omega) (by omega) (fun r X1 hq hl => ?_)
    obtain ⟨rfl, y1, y2, y3⟩ := hq
    have noR : ∀ k, 39 < k → k ≠ a → k ≠ a + 1 → k ∉ a :: (a + 1) :: jBS 31 := fun k h1 h2 h3 z => by simp only [List.mem_cons, List.not_mem_nil, or_false] at z; omega
    have hfr : jfr (a :: (a + 1) :: [40, 40 + 1, 40 + 2, 40 + 3, 40 + 4] ++ jBS 31) X X1 := ((q4.mono (by intro k hk; simp only [List.mem_append, List.mem_cons, List.not_mem_nil, or_false] at hk ⊢; omega)).tr (x2.mono (by intro k hk; simp only [List.mem_append, List.mem_cons, List.not_mem_nil, or_false] at hk ⊢; omega))).tr (y2.mono (by intro k hk; simp only [List.mem_append, List.mem_cons, List.not_mem_nil, or_false] at hk ⊢; omega))
    have hle := hfr.1
    refine kw_vret hF rfl A_unite_38 ?_ (by omega)
    refine ⟨rfl, ?_, ?_, hfr.mono (fun k hk => ?_)⟩
    · have : jUni A B = jMk (fun w => jPg A.2.1 B.2.1 0 (jkr (jPn (jXf A) (jXf B)) 0 w)) := jMk_congr (fun w hw => by rw [jP_lang na1 nb1 nb24 hxa hxb hw]; rfl)
      rw [this]
      exact y3
    · refine hS0.pair hfr (fun k hk => ?_) y1 ((x2.at (noB 40 (by decide)) q1 |> y2.at (noR 40 (by decide) (by omega) (by omega)))) ((q2.x.fr x2 (noB _ (by decide)) (noB _ (by decide))).fr y2 (noR _ (by decide) (by omega) (by omega)) (noR _ (by decide) (by omega) (by omega))) ((q3.x.fr x2 (noB _ (by decide)) (noB _ (by decide))).fr y2 (noR _ (by decide) (by omega) (by omega)) (noR _ (by decide) (by omega) (by omega)))
      simp only [List.mem_append, List.mem_cons, List.not_mem_nil, or_false] at hk
      omega
    · rw [List.mem_append, jZs_mem]
      simp only [List.mem_append, List.mem_cons, List.not_mem_nil, or_false] at hk ⊢
      omega
  · have e : A = B := of_decide_eq_true (jb_t hz)
    subst e
    refine kw_vret hF rfl A_unite_8 ?_ (by first | (simp [jLs_len]; done) | (simp [*]; done))
    exact ⟨rfl, by rw [jUni_same ha.2]; exact ha, hS0, jfr.rf _ _⟩
end JA1
