-- Analysis: findWitnesses
def jatx (j : Nat) : Nat := jread (j / 8) (j % 8 + 1)
/-- the words of a language that are attacks -/
def jAtt (L : jLan) (w : List Nat) : Bool := jAc L w && Nat.testBit 14 (jgo jatx 0 w)
noncomputable def jWt (L : jLan) : Option (List Nat) := @dite (Option (List Nat)) (∃ w, jLst (jAtt L) w) (Classical.propDecidable _) (fun h => some (Classical.choose h)) (fun _ => none)
theorem jWt_some {L : jLan} {w : List Nat} (h : jLst (jAtt L) w) : jWt L = some w := by
  have hex : ∃ w, jLst (jAtt L) w := ⟨w, h⟩
  unfold jWt
  rw [dif_pos hex, (Classical.choose_spec hex).uniq h (fun _ _ => rfl)]
theorem jWt_none {L : jLan} (h : ∀ w, jok w → jAtt L w = false) : jWt L = none := by
  unfold jWt
  rw [dif_neg]
  rintro ⟨w, h1, h2, -⟩
  rw [h w h1] at h2
  cases h2
theorem jX.le96 {V : Nat → Prop} {fi : Nat} {nxt : Nat → Nat → Nat} {t n : Nat} {key δ e : Nat → Nat} {nx ky so en : Nat → Int32} (h : jX V fi nxt t n key δ e nx ky so en) (hV : ∀ k, V k → k / 24 < 24 ∧ k % 24 < 4) : n ≤ 96 := by
  refine jpig 96 (fun i => key i / 24 * 4 + key i % 24) n (fun i hi => ?_) (fun i j hi hj he => ?_)
  · have := hV _ (h.2.2.1 i hi)
    show key i / 24 * 4 + key i % 24 < 96
    omega
  · have a := hV _ (h.2.2.1 i hi)
    have b := hV _ (h.2.2.1 j hj)
    have he : key i / 24 * 4 + key i % 24 = key j / 24 * 4 + key j % 24 := he
    exact h.2.2.2.1 i j hi hj (by omega)
theorem jLst.congr {P Q : List Nat → Bool} {w : List Nat} (h : jLst P w) (he : ∀ v, jok v → P v = Q v) : jLst Q w := ⟨h.1, by rw [← he w h.1]; exact h.2.1, fun v hv hQ => h.2.2 v hv (by rw [he v hv]; exact hQ)⟩
/-- the languages of the sinks -/
def jSk (X : ja_H) (sk : Nat → Option jLan) : Prop := (∃ f : Nat → Option Nat, X[12]? = some (.inl (4, 6, .inr (.inr (.inr (.inr f))))) ∧ ∀ i, i < 6 → f i = some (58 + 2 * i)) ∧ ∀ i, i < 6 → jOpt X (58 + 2 * i) (sk i)
theorem jSk.fr {S : List Nat} {X Y : ja_H} {sk : Nat → Option jLan} (h : jSk X sk) (hf : jfr S X Y) (hS : ∀ k ∈ S, k ≠ 12 ∧ (k < 58 ∨ 70 ≤ k)) : jSk Y sk := by
  obtain ⟨⟨f, a1, a2⟩, a3⟩ := h
  have no : ∀ k, k = 12 ∨ (58 ≤ k ∧ k < 70) → k ∉ S := fun k hk z => by have := hS k z; omega
  exact ⟨⟨f, hf.at (no _ (by decide)) a1, a2⟩, fun i hi => (a3 i hi).fr hf (no _ (by omega)) (no _ (by omega))⟩
def jUn (wt : Nat → Option (List Nat)) : Nat → Nat
  | 0 => 0
  | k + 1 => jUn wt k + (wt k).isSome.toNat
theorem jUn_le (wt : Nat → Option (List Nat)) : ∀ k, jUn wt k ≤ k
  | 0 => Nat.le_refl _
  | k + 1 => by have := jUn_le wt k; rw [jUn]; cases (wt k).isSome <;> simp <;> omega
def jFs : List Nat := [11] ++ List.range' 15 7 ++ List.range' 27 31
theorem jFs_mem {k : Nat} : k ∈ jFs ↔ k = 11 ∨ (15 ≤ k ∧ k < 22) ∨ (27 ≤ k ∧ k < 58) := by
  simp only [jFs, List.mem_append, List.mem_range'_1, List.mem_cons, List.not_mem_nil, or_false]
  omega
theorem jWv.put {X Y : ja_H} {k : Nat} {wt : Nat → Option (List Nat)} {len : Int32} {row : Nat → Int32} {f : Nat → Option Nat} {wl : Nat → Int32} (h : jWv X k wt) (hk : k < 6) (h14 : Y[14]? = some (.inl (5, 6, .inr (.inr (.inr (.inr f)))))) (hfk : ∀ i, i < 6 → f i = some (15 + i)) (h21 : X[21]? = some (.inl (0, 6, .inl wl))) (h21' : Y[21]? = some (.inl (0, 6, .inl (upd wl k len)))) (hrow : Y[15 + k]? = some (.inl (0, 96, .inl row))) (hoth : ∀ i, i < 6 → i ≠ k → Y[15 + i]? = X[15 + i]?) (hw : jW1 len row (wt k)) : jWv Y (k + 1) wt := by
  obtain ⟨f0, wl0, a1, a2, a3, a4⟩ := h
  rw [h21] at a3
  cases a3
  refine ⟨f, _, h14, hfk, h21', fun i hi => ?_⟩
  by_cases hik : i = k
  · subst hik
    exact ⟨row, hrow, fun _ => by rw [pk_us]; exact hw⟩
  · obtain ⟨r0, b1, b2⟩ := a4 i hi
    exact ⟨r0, by rw [hoth i hi hik]; exact b1, fun hlt => by rw [pk_un hik]; exact b2 (by omega)⟩
theorem jWv.zero {X : ja_H} {c : Nat} {wt wt' : Nat → Option (List Nat)} (h : jWv X c wt) : jWv X 0 wt' := by
  obtain ⟨f, wl, w1, w2, w3, w4⟩ := h
  exact ⟨f, wl, w1, w2, w3, fun k hk => by obtain ⟨row, r1, -⟩ := w4 k hk; exact ⟨row, r1, fun z => absurd z (by omega)⟩⟩
section JFW
variable (l : Launch) (D : va_G) (g : Nat × Nat) {X : ja_H}
set_option maxHeartbeats 8000000 in
set_option maxRecDepth 100000 in
theorem c_A_findWitnesses {s : Nat} {md un : Int32} {sk : Nat → Option jLan} {wt0 : Nat → Option (List Nat)} {Lk : Nat → jLan} (h : jAo X md un) (hS : jSc X) (hK : jSk X sk) (hs : ∀ k, k < s → sk k = some (Lk k)) (hA : jLv X 25 4 14 jatx) (hW : jWv X 0 wt0) (hs6 : s ≤ 6) : AMet l D g 4 0 0 m_A_findWitnesses [.ref 11, .int (nI s)] X (fun r X' => r = none ∧ jAo X' md (nI (jUn (fun k => jWt (Lk k)) s)) ∧ jSc X' ∧ jWv X' s (fun k => jWt (Lk k)) ∧ jfr jFs X X') := by
  have h11 : 11 < X.length := (List.getElem?_eq_some_iff.mp h).1
  refine ja_metK (by decide) rfl (Nat.le_of_ble_eq_true rfl) fun K hB hF => ?_
  have loop : ∀ m k (Y : ja_H), k + m = s → jfr jFs X Y → jAo Y md (nI (jUn (fun k => jWt (Lk k)) k)) → jSc Y → jWv Y k (fun k => jWt (Lk k)) → K 7 [.ref 11, .int (nI s), .int (nI k)] [] Y 0 0 := by
    intro m
    induction m with
    | zero =>
      intro k Y hk hf hY hYS hYW
      have hle := hf.1
      refine kw_iload_n hB A_findWitnesses_7 rfl ?_
      refine kw_iload_n hB A_findWitnesses_8 rfl ?_
      refine kn_icmp_ge hB A_findWitnesses_9 (by omega) (by omega) (fun hc => ?_) (fun hc => absurd hc (by omega))
      refine kw_vret hF rfl A_findWitnesses_84 ?_ (by omega)
      have : k = s := by omega
      subst this
      exact ⟨rfl, hY, hYS, hYW, hf⟩
    | succ m ih =>
      intro k Y hk hf hY hYS hYW
      have hle := hf.1
      have nof : ∀ j, j ∈ jFs → j ≠ 12 ∧ (j < 58 ∨ 70 ≤ j) := fun j hj => by rw [jFs_mem] at hj; omega
      have hK1 := hK.fr hf nof
      obtain ⟨⟨fs, k1, k2⟩, k3⟩ := hK1
      have hL := (k3 k (by omega)).2 _ (hs k (by omega))
      have hA1 : jLv Y 25 4 14 jatx := hA.fr hf (by rw [jFs_mem]; omega) (by rw [jFs_mem]; omega)
      have hYS0 := hYS
      obtain ⟨s1, s2, s3, ⟨ch0, s4⟩, s5, s6, -⟩ := hYS
      obtain ⟨na24, na1, -, hxa⟩ := hL.1.good
      obtain ⟨nb24, nb1, -, hxb⟩ := hA1.good
      refine kw_iload_n hB A_findWitnesses_7 rfl ?_
      refine kw_iload_n hB A_findWitnesses_8 rfl ?_
      refine kn_icmp_ge hB A_findWitnesses_9 (by omega) (by omega) (fun hc => absurd hc (by omega)) (fun hc => ?_)
      refine kw_aload_n hB A_findWitnesses_12 rfl ?_
      refine kw_getf hB A_findWitnesses_13 f_A_63 hY rfl ?_
      refine kw_aload_n hB A_findWitnesses_16 rfl ?_
      refine kw_getf hB A_findWitnesses_17 f_A_15 hY rfl ?_
      refine kw_iload_n hB A_findWitnesses_20 rfl ?_
      refine kn_aald hB A_findWitnesses_21 k1 rfl rfl (by omega) (by decide) (k2 _ (by omega)) ?_
      refine kw_aload_n hB A_findWitnesses_22 rfl ?_
      refine kw_getf hB A_findWitnesses_23 f_A_43 hY rfl ?_
      refine kw_iconst hB A_findWitnesses_26 (v := nI 1) (by decide) ?_
      refine kw_callV hB A_findWitnesses_27 s_A_154 im_P_use se_P_use s4 rfl rfl (As := [.ref (58 + 2 * k), .ref 25, .int (nI 1)]) (c_P_use l D g (ch := 1) s4 s5 s6 hL.1 hA1 ⟨by omega, by omega, Or.inr (by omega)⟩ (Or.inl (by omega))) rfl (by decide) (Nat.le_of_ble_eq_true rfl) (by omega) (by omega) (fun r X1 hq hl => ?_)
      obtain ⟨rfl, q1, q2, q3, q4⟩ := hq
      have no : ∀ k, k < 40 ∨ 44 < k → k ∉ [40, 40 + 1, 40 + 2, 40 + 3, 40 + 4] := fun k hk z => by simp only [List.mem_cons, List.not_mem_nil, or_false] at z; omega
      have h1 : jAo X1 md _ := q4.at (no 11 (by decide)) hY
      have b1 : jBx X1 31 := s3.fr q4 (fun k hk => by simp only [List.mem_cons, List.not_mem_nil, or_false] at hk; omega)
      obtain ⟨ct, nx, gd, ky, so, en, kd, fk, lk, rb, cb⟩ := b1
      refine kw_aload_n hB A_findWitnesses_30 rfl ?_
      refine kw_getf hB A_findWitnesses_31 f_A_56 h1 rfl ?_
      refine kw_aload_n hB A_findWitnesses_34 rfl ?_
      refine kw_getf hB A_findWitnesses_35 f_A_63 h1 rfl ?_
      refine kw_callV hB A_findWitnesses_38 s_A_158 im_B_explore se_B_explore rb.1 rfl rfl (As := [.ref 40]) (c_B_explore l D g rb cb (jRl_P l D g q1 (by decide) q2 q3 (Or.inr (by decide)))) rfl (by decide) (Nat.le_of_ble_eq_true rfl) (by omega) (by omega) (fun r X1 hq hl => ?_)
      obtain ⟨rfl, x2, n, key, δ, e, nx', gd', ky', so', so2, en', x3, x4, x5, x6, x7⟩ := hq
      have noB : ∀ k, k < 31 ∨ 39 < k → k ∉ jBS 31 := fun k hk z => by simp only [List.mem_cons, List.not_mem_nil, or_false] at z; omega
      have h2 : jAo X1 md _ := x2.at (noB 11 (by decide)) h1
      have hn96 := x6.le96 (fun k hk => by omega)
      have hbf := x6.bfs
      have hfr1 : jfr (List.range' 31 14) Y X1 := (q4.mono (by intro k hk; rw [List.mem_range'_1]; simp only [List.mem_cons, List.not_mem_nil, or_false] at hk; omega)).tr (x2.mono (by intro k hk; rw [List.mem_range'_1]; simp only [List.mem_cons, List.not_mem_nil, or_false] at hk; omega))
      have hmr : ∀ j, j ∈ List.range' 31 14 → 31 ≤ j ∧ j < 45 := fun j hj => by rw [List.mem_range'_1] at hj; omega
      have hYW1 := hYW.fr hfr1 (fun j hj => by have := hmr j hj; omega)
      have hSc1 : jSc X1 := hYS0.pair hfr1 (fun j hj => by have := hmr j hj; omega) ⟨_, _, _, _, _, _, _, _, _, x3, x4⟩ (x2.at (noB 40 (by decide)) q1) (q2.x.fr x2 (noB _ (by decide)) (noB _ (by decide))) (q3.x.fr x2 (noB _ (by decide)) (noB _ (by decide)))
      have hle1 := hfr1.1
      have hYW2 := hYW1
      obtain ⟨f, wl, w1, w2, w3, w4⟩ := hYW1
      obtain ⟨row, r1, -⟩ := w4 k (by omega)
      have h21 : 21 < X1.length := (List.getElem?_eq_some_iff.mp w3).1
      have hr1 : 15 + k < X1.length := (List.getElem?_eq_some_iff.mp r1).1
      have hlang : ∀ w, jok w → jPg (Lk k).2.1 14 1 (key (jgo δ 0 w)) = jAtt (Lk k) w := fun w hw => by
        rw [x6.run w 0 x6.1 hw, x6.2.1, jP_lang na1 nb1 nb24 hxa hxb hw]
        rfl
      have he8 : ∀ j, 1 ≤ j → j < n → e j < 8 * j := fun j h1 h2 => (hbf.2.2 j h1 h2).2.2
      -- behind the word
      have fin : ∀ (Z : ja_H) (len : Int32) (row' : Nat → Int32), Z[15 + k]? = some (.inl (0, 96, .inl row')) → jfr [15 + k] X1 Z → jW1 len row' (jWt (Lk k)) → K 59 [.ref 11, .int (nI s), .int (nI k)] [.int len, .int (nI k), .ref 21] Z 0 0 := by
        intro Z len row' z1 z2 z3
        have nz : ∀ j, j ≠ 15 + k → j ∉ [15 + k] := fun j hj z => hj (List.mem_singleton.mp z)
        have hlz := z2.1
        have hz21 : Z[21]? = some (.inl (0, 6, .inl wl)) := z2.at (nz _ (by omega)) w3
        refine kn_iast hB A_findWitnesses_59 hz21 rfl (by omega) (by decide) ?_
        have hf2 := jset_fr Z 21 (.inl (0, 6, .inl (upd wl k len)))
        have n21 : ∀ j, j ≠ 21 → j ∉ [21] := fun j hj z => hj (List.mem_singleton.mp z)
        have hZ11 : jAo (Z.set 21 (.inl (0, 6, .inl (upd wl k len)))) md _ := hf2.at (n21 _ (by decide)) (z2.at (nz _ (by omega)) h2)
        have hZW : jWv (Z.set 21 (.inl (0, 6, .inl (upd wl k len)))) (k + 1) (fun k => jWt (Lk k)) := hYW2.put (by omega) (hf2.at (n21 _ (by decide)) (z2.at (nz _ (by omega)) w1)) w2 w3 (List.getElem?_set_self (by omega)) (hf2.at (n21 _ (by omega)) z1) (fun i hi hik => by rw [hf2.2 _ (n21 _ (by omega)), z2.2 _ (nz _ (by omega))]) z3
        have hZS : jSc (Z.set 21 (.inl (0, 6, .inl (upd wl k len)))) := (hSc1.fr z2 (fun j hj => by have := List.mem_singleton.mp hj; omega)).fr hf2 (fun j hj => by have := List.mem_singleton.mp hj; omega)
        have hZf : jfr jFs X (Z.set 21 (.inl (0, 6, .inl (upd wl k len)))) := ((hf.tr (hfr1.mono (fun j hj => by have := hmr j hj; rw [jFs_mem]; omega))).tr (z2.mono (fun j hj => by have := List.mem_singleton.mp hj; rw [jFs_mem]; omega))).tr (hf2.mono (fun j hj => by have := List.mem_singleton.mp hj; rw [jFs_mem]; omega))
        generalize Z.set 21 (.inl (0, 6, .inl (upd wl k len))) = U at hZ11 hZW hZS hZf
        have hlu := hZf.1
        refine kw_aload_n hB A_findWitnesses_60 rfl ?_
        refine kw_iload_n hB A_findWitnesses_61 rfl ?_
        refine kw_callV hB A_findWitnesses_62 s_A_166 im_A_isUnsafe se_A_isUnsafe hZ11 rfl rfl (As := [.int (nI k)]) (c_A_isUnsafe l D g hZ11 hZW (by omega) (by omega)) rfl (by decide) (Nat.le_of_ble_eq_true rfl) (by omega) (by omega) (fun r X1 hq hl => ?_)
        obtain ⟨rfl, hxeq⟩ := hq
        obtain rfl := hxeq.symm
        have hu := jUn_le (fun k => jWt (Lk k)) k
        refine kn_if_eq hB A_findWitnesses_65 (by cases (jWt (Lk k)).isSome <;> decide) (fun hz => ?_) (fun hz => ?_)
        · have hz' : (jWt (Lk k)).isSome = false := jb_f hz
          refine kn_iinc hB A_findWitnesses_78 rfl (by decide) rfl ?_
          refine kw_goto hB A_findWitnesses_81 ?_
          refine ih (k + 1) _ (by omega) hZf ?_ hZS hZW
          rw [jUn, show ((jWt (Lk k)).isSome.toNat) = 0 by rw [hz']; rfl, Nat.add_zero]
          exact hZ11
        · have hz' : (jWt (Lk k)).isSome = true := jb_t hz
          refine kw_aload_n hB A_findWitnesses_68 rfl ?_
          refine kw_dup hB A_findWitnesses_69 rfl ?_
          refine kw_getf hB A_findWitnesses_70 f_A_151 hZ11 rfl ?_
          refine kw_iconst hB A_findWitnesses_73 (v := nI 1) (by decide) ?_
          refine kn_iadd hB A_findWitnesses_74 ?_
          refine kw_putf hB A_findWitnesses_75 f_A_151 jc_A jw_A_3 hZ11 (Nat.le_of_ble_eq_true rfl) rfl rfl ?_
          refine kn_iinc hB A_findWitnesses_78 rfl (by decide) rfl ?_
          refine kw_goto hB A_findWitnesses_81 ?_
          refine ih (k + 1) _ (by omega) (hZf.tr ((jset_fr _ 11 _).mono (fun j hj => by have := List.mem_singleton.mp hj; rw [jFs_mem]; omega))) ?_ (hZS.fr (jset_fr _ 11 _) (fun j hj => by have := List.mem_singleton.mp hj; omega)) (hZW.fr (jset_fr _ 11 _) (fun j hj => by have := List.mem_singleton.mp hj; omega))
          rw [jUn, show ((jWt (Lk k)).isSome.toNat) = 1 by rw [hz']; rfl]
          exact List.getElem?_set_self (by omega)
      refine kw_aload_n hB A_findWitnesses_41 rfl ?_
      refine kw_getf hB A_findWitnesses_42 f_A_30 h2 rfl ?_
      refine kw_iload_n hB A_findWitnesses_45 rfl ?_
      refine kw_aload_n hB A_findWitnesses_46 rfl ?_
      refine kw_getf hB A_findWitnesses_47 f_A_56 h2 rfl ?_
      refine kw_aload_n hB A_findWitnesses_50 rfl ?_
      refine kw_getf hB A_findWitnesses_51 f_A_27 h2 rfl ?_
      refine kw_iload_n hB A_findWitnesses_54 rfl ?_
      refine kn_aald hB A_findWitnesses_55 w1 rfl rfl (by omega) (by decide) (w2 _ (by omega)) ?_
      refine kw_callV hB A_findWitnesses_56 s_A_162 im_B_leastWord se_B_leastWord x3.1 rfl rfl (As := [.ref (15 + k)]) (c_B_leastWord l D g (a := fun i => jPg (Lk k).2.1 14 1 (key i)) x3 r1 (Or.inl (by omega)) hn96 x6.1 x7 (fun j h1 h2 => (x6.2.2.2.2.2.2.2.2.1 j h1 h2).1) he8) rfl (by decide) (Nat.le_of_ble_eq_true rfl) (by omega) (by omega) (fun r X1 hq hl => ?_)
      rcases hq with ⟨v1, rfl, rfl⟩ | ⟨q, row', v1, v2, v3, rfl, rfl, v6⟩
      · refine fin _ _ row r1 (jfr.rf _ _) ?_
        rw [jWt_none (fun w hw => by rw [← hlang w hw]; exact v1 _ (jgo_lt (fun s hs => hbf.2.1 s hs) w 0 x6.1 hw))]
        rfl
      · refine fin _ _ row' (List.getElem?_set_self hr1) (jset_fr _ _ _) ?_
        have hl := jpw_len he8 q v1
        rw [jWt_some ((jpw_lst hbf v1 v2 v3).congr hlang)]
        exact ⟨rfl, by omega, v6⟩
  refine kw_aload_n hB A_findWitnesses_0 rfl ?_
  refine kw_iconst hB A_findWitnesses_1 (v := nI 0) (by decide) ?_
  refine kw_putf hB A_findWitnesses_2 f_A_151 jc_A jw_A_3 h (Nat.le_of_ble_eq_true rfl) rfl rfl ?_
  refine kw_iconst hB A_findWitnesses_5 (v := nI 0) (by decide) ?_
  refine kw_istore_n hB A_findWitnesses_6 rfl (by decide) rfl ?_
  exact loop s 0 _ (by omega) ((jset_fr _ 11 _).mono (fun j hj => by have := List.mem_singleton.mp hj; rw [jFs_mem]; omega)) (List.getElem?_set_self h11) (hS.fr (jset_fr _ 11 _) (fun j hj => by have := List.mem_singleton.mp hj; omega)) (hW.fr (jset_fr _ 11 _) (fun j hj => by have := List.mem_singleton.mp hj; omega)).zero
end JFW
