-- the model: below, reads, distances
def jen (o : Option Nat) : Int32 := match o with
  | none => -1
  | some m => nI m
theorem jen_neg {o : Option Nat} (h : ∀ m, o = some m → m ≤ 96) : jen o < 0 ↔ o = none := by
  cases o with
  | none => exact ⟨fun _ => rfl, fun _ => by decide⟩
  | some m => exact ⟨fun z => absurd z (nI_pos (n := m) (by have := h m rfl; omega)), fun z => by cases z⟩
theorem jen_eq {o : Option Nat} {d : Nat} (h : ∀ m, o = some m → m ≤ 96) (hd : d ≤ 96) : jen o = nI d ↔ o = some d := by
  cases o with
  | none => exact ⟨fun z => absurd (show jen none < 0 by decide) (by rw [z]; exact nI_pos (by omega)), fun z => by cases z⟩
  | some m => exact ⟨fun z => by rw [(nI_eq (by have := h m rfl; omega) (by omega)).mp z], fun z => by rw [Option.some.inj z]; rfl⟩
section JMD
variable (l : Launch) (D : va_G) (g : Nat × Nat) {X : ja_H} {s : Nat → Int32} {f : Nat → Option jLan}
set_option maxHeartbeats 4000000 in
set_option maxRecDepth 100000 in
theorem c_M_below {x : Int32} {m : Nat} (hm : m < 2 ^ 31) : AMet l D g 0 0 0 m_M_below [.int x, .int (nI m)] X (fun r X' => r = some (.int (nI (jin m x).toNat)) ∧ X' = X) := by
  refine ja_metK (by decide) rfl (Nat.le_of_ble_eq_true rfl) fun K hB hF => ?_
  have no : jin m x = false → K 13 [.int x, .int (nI m)] [] X 0 0 := by
    intro h
    refine kw_iconst hB M_below_13 (v := nI 0) (by decide) ?_
    refine kw_zret hF rfl (by first | rfl | decide) M_below_14 ?_ (by first | (simp [jLs_len]; done) | (simp [*]; done))
    exact ⟨by rw [h]; rfl, rfl⟩
  refine kw_iload_n hB M_below_0 rfl ?_
  refine kw_if_lt hB M_below_1 (fun hc => no (jin_neg hc)) (fun hc => ?_)
  obtain ⟨j, hj, rfl⟩ := nI_of hc
  refine kw_iload_n hB M_below_4 rfl ?_
  refine kw_iload_n hB M_below_5 rfl ?_
  refine kn_icmp_ge hB M_below_6 (by omega) (by omega) (fun h1 => no ?_) (fun h1 => ?_)
  · rw [jin_nI hj, decide_eq_false (by omega)]
  · refine kw_iconst hB M_below_9 (v := nI 1) (by decide) ?_
    refine kw_goto hB M_below_10 ?_
    refine kw_zret hF rfl (by first | rfl | decide) M_below_14 ?_ (by first | (simp [jLs_len]; done) | (simp [*]; done))
    exact ⟨by rw [jin_nI hj, decide_eq_true h1]; rfl, rfl⟩
set_option maxHeartbeats 4000000 in
set_option maxRecDepth 100000 in
theorem c_M_reads {p x : Nat} (hp : p < 4) (h1 : 1 ≤ x) (h8 : x ≤ 8) : AMet l D g 0 0 0 m_M_reads [.int (nI p), .int (nI x)] X (fun r X' => r = some (.int (nI (jread p x))) ∧ X' = X) := by
  refine ja_metK (by decide) rfl (Nat.le_of_ble_eq_true rfl) fun K hB hF => ?_
  have b29 : ∀ (t q : Bool), jtnt x = t → decide (jsym x = 3) = q → K 29 [.int (nI p), .int (nI x), .int (nI t.toNat), .int (nI q.toNat)] [] X 0 0 := by
    intro t q ht hq
    have hr : jread p x = if p = 0 then (if t then 3 else if q then 1 else 0) else if p = 1 then (if q then (if t then 3 else 0) else if 6 < x then 2 else 1) else if p = 2 then 1 else 3 := by
      unfold jread
      have h4 : jsym x = 4 ↔ 6 < x := by unfold jsym; omega
      simp only [ht, h4]
      cases q with
      | true => have : jsym x = 3 := of_decide_eq_true hq; simp [this]
      | false => have : ¬ jsym x = 3 := of_decide_eq_false hq; simp [this]
    refine kw_iload_n hB M_reads_29 rfl ?_
    refine kn_if_ne hB M_reads_30 (by omega) (fun z => ?_) (fun z => ?_)
    · refine kw_iload_n hB M_reads_51 rfl ?_
      refine kw_iconst hB M_reads_52 (v := nI 1) (by decide) ?_
      refine kn_icmp_ne hB M_reads_53 (by omega) (by decide) (fun z1 => ?_) (fun z1 => ?_)
      · refine kw_iload_n hB M_reads_84 rfl ?_
        refine kw_iconst hB M_reads_85 (v := nI 2) (by decide) ?_
        refine kn_icmp_ne hB M_reads_86 (by omega) (by decide) (fun z2 => ?_) (fun z2 => ?_)
        · refine kw_iconst hB M_reads_93 (v := nI 3) (by decide) ?_
          refine kw_iret hF rfl M_reads_94 ?_ (by first | (simp [jLs_len]; done) | (simp [*]; done))
          exact ⟨by rw [hr]; simp [z, z1, z2], rfl⟩
        · refine kw_iconst hB M_reads_89 (v := nI 1) (by decide) ?_
          refine kw_goto hB M_reads_90 ?_
          refine kw_iret hF rfl M_reads_94 ?_ (by first | (simp [jLs_len]; done) | (simp [*]; done))
          exact ⟨by rw [hr]; simp [z, z1, z2], rfl⟩
      · refine kw_iload_n hB M_reads_56 rfl ?_
        refine kn_if_eq hB M_reads_57 (by cases q <;> decide) (fun z2 => ?_) (fun z2 => ?_)
        · have z2 := jb_f z2
          refine kw_iload_n hB M_reads_72 rfl ?_
          refine kw_bipush hB M_reads_73 (v := nI 6) (by decide) ?_
          refine kn_icmp_le hB M_reads_75 (by omega) (by decide) (fun z3 => ?_) (fun z3 => ?_)
          · refine kw_iconst hB M_reads_82 (v := nI 1) (by decide) ?_
            refine kw_iret hF rfl M_reads_83 ?_ (by first | (simp [jLs_len]; done) | (simp [*]; done))
            exact ⟨by rw [hr]; simp [z, z1, z2]; rw [if_neg (by omega)], rfl⟩
          · refine kw_iconst hB M_reads_78 (v := nI 2) (by decide) ?_
            refine kw_goto hB M_reads_79 ?_
            refine kw_iret hF rfl M_reads_83 ?_ (by first | (simp [jLs_len]; done) | (simp [*]; done))
            exact ⟨by rw [hr]; simp [z, z1, z2]; rw [if_pos (by omega)], rfl⟩
        · have z2 := jb_t z2
          refine kw_iload_n hB M_reads_60 rfl ?_
          refine kn_if_eq hB M_reads_61 (by cases t <;> decide) (fun z3 => ?_) (fun z3 => ?_)
          · have z3 := jb_f z3
            refine kw_iconst hB M_reads_68 (v := nI 0) (by decide) ?_
            refine kw_goto hB M_reads_69 ?_
            refine kw_iret hF rfl M_reads_83 ?_ (by first | (simp [jLs_len]; done) | (simp [*]; done))
            exact ⟨by rw [hr]; simp [z, z1, z2, z3], rfl⟩
          · have z3 := jb_t z3
            refine kw_iconst hB M_reads_64 (v := nI 3) (by decide) ?_
            refine kw_goto hB M_reads_65 ?_
            refine kw_iret hF rfl M_reads_83 ?_ (by first | (simp [jLs_len]; done) | (simp [*]; done))
            exact ⟨by rw [hr]; simp [z, z1, z2, z3], rfl⟩
    · refine kw_iload_n hB M_reads_33 rfl ?_
      refine kn_if_eq hB M_reads_34 (by cases t <;> decide) (fun z2 => ?_) (fun z2 => ?_)
      · have z2 := jb_f z2
        refine kw_iload_n hB M_reads_41 rfl ?_
        refine kn_if_eq hB M_reads_42 (by cases q <;> decide) (fun z3 => ?_) (fun z3 => ?_)
        · have z3 := jb_f z3
          refine kw_iconst hB M_reads_49 (v := nI 0) (by decide) ?_
          refine kw_iret hF rfl M_reads_50 ?_ (by first | (simp [jLs_len]; done) | (simp [*]; done))
          exact ⟨by rw [hr]; simp [z, z2, z3], rfl⟩
        · have z3 := jb_t z3
          refine kw_iconst hB M_reads_45 (v := nI 1) (by decide) ?_
          refine kw_goto hB M_reads_46 ?_
          refine kw_iret hF rfl M_reads_50 ?_ (by first | (simp [jLs_len]; done) | (simp [*]; done))
          exact ⟨by rw [hr]; simp [z, z2, z3], rfl⟩
      · have z2 := jb_t z2
        refine kw_iconst hB M_reads_37 (v := nI 3) (by decide) ?_
        refine kw_goto hB M_reads_38 ?_
        refine kw_iret hF rfl M_reads_50 ?_ (by first | (simp [jLs_len]; done) | (simp [*]; done))
        exact ⟨by rw [hr]; simp [z, z2], rfl⟩
  have b12 : ∀ (t : Bool), jtnt x = t → K 12 [.int (nI p), .int (nI x), .int (nI t.toNat), .retAddr 0] [] X 0 0 := by
    intro t ht
    have yes : jsym x = 3 → K 23 [.int (nI p), .int (nI x), .int (nI t.toNat), .retAddr 0] [] X 0 0 := by
      intro h
      refine kw_iconst hB M_reads_23 (v := nI 1) (by decide) ?_
      refine kw_goto hB M_reads_24 ?_
      refine kw_istore_n hB M_reads_28 rfl (by decide) rfl ?_
      exact b29 t true ht (decide_eq_true h)
    refine kw_iload_n hB M_reads_12 rfl ?_
    refine kw_iconst hB M_reads_13 (v := nI 5) (by decide) ?_
    refine kn_icmp_eq hB M_reads_14 (by omega) (by decide) (fun z => yes (by unfold jsym; omega)) (fun z => ?_)
    refine kw_iload_n hB M_reads_17 rfl ?_
    refine kw_bipush hB M_reads_18 (v := nI 6) (by decide) ?_
    refine kn_icmp_ne hB M_reads_20 (by omega) (by decide) (fun z2 => ?_) (fun z2 => yes (by unfold jsym; omega))
    refine kw_iconst hB M_reads_27 (v := nI 0) (by decide) ?_
    refine kw_istore_n hB M_reads_28 rfl (by decide) rfl ?_
    exact b29 t false ht (decide_eq_false (by unfold jsym; omega))
  refine kw_iload_n hB M_reads_0 rfl ?_
  refine kw_iconst hB M_reads_1 (v := nI 2) (by decide) ?_
  refine kn_irem hB M_reads_2 (by omega) (by decide) (by decide) ?_
  refine kn_if_ne hB M_reads_3 (by omega) (fun z => ?_) (fun z => ?_)
  · refine kw_iconst hB M_reads_10 (v := nI 0) (by decide) ?_
    refine kw_istore_n hB M_reads_11 rfl (by decide) rfl ?_
    exact b12 false (by simp [jtnt]; omega)
  · refine kw_iconst hB M_reads_6 (v := nI 1) (by decide) ?_
    refine kw_goto hB M_reads_7 ?_
    refine kw_istore_n hB M_reads_11 rfl (by decide) rfl ?_
    exact b12 true (by simp [jtnt]; omega)
set_option maxHeartbeats 16000000 in
set_option maxRecDepth 100000 in
theorem c_M_distances {a : Nat} {L : jLan} {fa0 : Nat → Int32} (h : jMe X s f) (ha : a < 43) (hL : f a = some L) (hfa : X[166]? = some (.inl (0, 96, .inl fa0))) : AMet l D g 1 0 0 m_M_distances [.ref 145, .int (nI a)] X (fun r X' => r = some (.int (jen (jFz L 0))) ∧ ∃ fa, X'[166]? = some (.inl (0, 96, .inl fa)) ∧ (∀ k, k < 4 * L.1 → fa k = jen (jFz L k)) ∧ jfr [166] X X') := by
  obtain ⟨st, gd, tb, ht, he⟩ := h.tr
  have hat : jAt st gd tb a L := he a L ha hL
  have ok := hat.1
  have L1 := ok.2.1
  have L24 := ok.2.2.1
  have no : ∀ k ∈ [166], k ≠ 145 ∧ k ≠ 155 ∧ k ≠ 156 ∧ k ≠ 157 := by decide
  have sf : ∀ (Y : ja_H) (c : ja_C), jfr [166] Y (Y.set 166 c) := fun Y c => jset_fr Y 166 c
  have su : ∀ (Y : ja_H) (fa fa' : Nat → Int32), Y[166]? = some (.inl (0, 96, .inl fa)) → (Y.set 166 (.inl (0, 96, .inl fa')))[166]? = some (.inl (0, 96, .inl fa')) := fun Y fa fa' z => List.getElem?_set_self (List.getElem?_eq_some_iff.mp z).1
  have le : ∀ d k m, d ≤ 96 → jFar (jdx L) (jda L) d k = some m → m ≤ 96 := fun d k m hd z => Nat.le_trans (jFar_le z) hd
  refine ja_metK (by decide) rfl (Nat.le_of_ble_eq_true rfl) fun K hB hF => ?_
  -- the letters of a state
  have l79 : ∀ q c e k (fa : Nat → Int32) (Y : ja_H) (w5 : Value), c + q = 8 → e < 95 → k < 4 * L.1 → Y[166]? = some (.inl (0, 96, .inl fa)) → (∀ j, j < 4 * L.1 → j ≠ k → fa j = jen (if j < k then jFar (jdx L) (jda L) (e + 1) j else jFar (jdx L) (jda L) e j)) → fa k = jen ((jFar (jdx L) (jda L) e k).or (if jEb (fun c => decide (jFar (jdx L) (jda L) e (jdx L k (c + 1)) = some e)) c then some (e + 1) else none)) → jfr [166] X Y → (∀ (fa : Nat → Int32) (Y : ja_H) (w4 w5 : Value), Y[166]? = some (.inl (0, 96, .inl fa)) → (∀ j, j < 4 * L.1 → fa j = jen (if j < k + 1 then jFar (jdx L) (jda L) (e + 1) j else jFar (jdx L) (jda L) e j)) → jfr [166] X Y → K 64 [.ref 145, .int (nI a), .int (nI (e + 1)), .int (nI (k + 1)), w4, w5] [] Y 0 0) → K 79 [.ref 145, .int (nI a), .int (nI (e + 1)), .int (nI k), .int (nI (c + 1)), w5] [] Y 0 0 := by
    intro q
    induction q with
    | zero =>
      intro c e k fa Y w5 hc he95 hk hY e1 e2 hf kk
      have hc8 : c = 8 := by omega
      subst hc8
      refine kw_iload hB M_distances_79 rfl ?_
      refine kw_bipush hB M_distances_81 (v := nI 8) (by decide) ?_
      refine kn_icmp_gt hB M_distances_83 (by decide) (by decide) (fun _ => ?_) (fun z => absurd z (by decide))
      refine kn_iinc hB M_distances_144 rfl (by decide) rfl ?_
      refine kw_goto hB M_distances_147 ?_
      refine kk fa Y _ _ hY (fun j hj => ?_) hf
      by_cases z : j = k
      · subst z; rw [if_pos (by omega), e2]; rfl
      · rw [e1 j hj z]
        by_cases z2 : j < k
        · rw [if_pos z2, if_pos (by omega)]
        · rw [if_neg z2, if_neg (by omega)]
    | succ q ih =>
      intro c e k fa Y w5 hc he95 hk hY e1 e2 hf kk
      have tY := ht.fr hf no
      have hl := hf.1
      have tl := jdx_lt ok hk (show c < 8 by omega)
      refine kw_iload hB M_distances_79 rfl ?_
      refine kw_bipush hB M_distances_81 (v := nI 8) (by decide) ?_
      refine kn_icmp_gt hB M_distances_83 (by omega) (by decide) (fun z => absurd z (by omega)) (fun _ => ?_)
      refine kw_iconst hB M_distances_86 (v := nI 4) (by decide) ?_
      refine kw_aload_n hB M_distances_87 rfl ?_
      refine kw_iload_n hB M_distances_88 rfl ?_
      refine kw_iload_n hB M_distances_89 rfl ?_
      refine kw_iconst hB M_distances_90 (v := nI 4) (by decide) ?_
      refine kn_idiv hB M_distances_91 (by omega) (by decide) (by decide) ?_
      refine kw_iload hB M_distances_92 rfl ?_
      refine kw_callV hB M_distances_94 s_M_119 im_M_step se_M_step tY.1 rfl rfl (As := [.int (nI a), .int (nI (k / 4)), .int (nI (c + 1))]) (c_M_step l D g tY hat ha (by omega) (by omega) (by omega)) rfl (by decide) (Nat.le_of_ble_eq_true rfl) (by omega) (by omega) (fun r X1 hq hl => ?_)
      obtain ⟨rfl, hxeq⟩ := hq
      obtain rfl := hxeq.symm
      refine kn_imul hB M_distances_97 ?_
      refine kw_iload_n hB M_distances_98 rfl ?_
      refine kw_iconst hB M_distances_99 (v := nI 4) (by decide) ?_
      refine kn_irem hB M_distances_100 (by omega) (by decide) (by decide) ?_
      refine kw_iload hB M_distances_101 rfl ?_
      refine kw_callS hB M_distances_103 s_M_257 st_M_reads (As := [.int (nI (k % 4)), .int (nI (c + 1))]) (c_M_reads l D g (by omega) (by omega) (by omega)) rfl (by decide) (Nat.le_of_ble_eq_true rfl) (by omega) (by omega) (fun r X1 hq hl => ?_)
      obtain ⟨rfl, hxeq⟩ := hq
      obtain rfl := hxeq.symm
      refine kn_iadd hB M_distances_106 ?_
      rw [show 4 * jXf L (k / 4 * 8 + (c + 1) - 1) + jread (k % 4) (c + 1) = jdx L k (c + 1) from rfl]
      generalize ht : jdx L k (c + 1) = t at tl
      refine kw_istore hB M_distances_107 (by decide) rfl ?_
      refine kw_aload_n hB M_distances_109 rfl ?_
      refine kw_getf hB M_distances_110 f_M_71 tY.1 rfl ?_
      refine kw_iload_n hB M_distances_113 rfl ?_
      refine kn_iald hB M_distances_114 hY rfl (by omega) (by decide) ?_
      have kle : ∀ m, ((jFar (jdx L) (jda L) e k).or (if jEb (fun c => decide (jFar (jdx L) (jda L) e (jdx L k (c + 1)) = some e)) c then some (e + 1) else none)) = some m → m ≤ 96 := fun m hm => by
        cases y : jFar (jdx L) (jda L) e k with
        | some m' => rw [y] at hm; cases hm; exact le e k _ (by omega) y
        | none =>
          rw [y, Option.none_or] at hm
          split at hm
          · cases hm; omega
          · cases hm
      have nx : ∀ (fa' : Nat → Int32) (Y' : ja_H), Y'[166]? = some (.inl (0, 96, .inl fa')) → (∀ j, j ≠ k → fa' j = fa j) → fa' k = jen ((jFar (jdx L) (jda L) e k).or (if jEb (fun c => decide (jFar (jdx L) (jda L) e (jdx L k (c + 1)) = some e)) (c + 1) then some (e + 1) else none)) → jfr [166] X Y' → K 138 [.ref 145, .int (nI a), .int (nI (e + 1)), .int (nI k), .int (nI (c + 1)), .int (nI t)] [] Y' 0 0 := by
        intro fa' Y' hY' h1 h2 hf'
        refine kn_iinc hB M_distances_138 rfl (by decide) rfl ?_
        refine kw_goto hB M_distances_141 ?_
        exact ih (c + 1) e k fa' Y' _ (by omega) he95 hk hY' (fun j hj hjk => by rw [h1 j hjk]; exact e1 j hj hjk) h2 hf' kk
      rw [e2]
      refine kw_if_ge hB M_distances_115 (fun z => ?_) (fun z => ?_)
      · have hs := mt (jen_neg kle).mpr (Int32.not_lt.mpr z)
        refine nx fa Y hY (fun _ _ => rfl) ?_ hf
        rw [e2]
        congr 1
        cases y : jFar (jdx L) (jda L) e k with
        | some m => rfl
        | none =>
          rw [y, Option.none_or] at hs
          rw [Option.none_or, Option.none_or]
          have hb : jEb (fun c => decide (jFar (jdx L) (jda L) e (jdx L k (c + 1)) = some e)) c = true := by
            split at hs
            · assumption
            · exact absurd rfl hs
          rw [if_pos hb, if_pos (by rw [jEb, hb]; rfl)]
      · have hs := (jen_neg kle).mp (Int32.not_le.mp z)
        obtain ⟨hs1, hs2⟩ : jFar (jdx L) (jda L) e k = none ∧ jEb (fun c => decide (jFar (jdx L) (jda L) e (jdx L k (c + 1)) = some e)) c = false := by
          cases y : jFar (jdx L) (jda L) e k with
          | some m => rw [y] at hs; cases hs
          | none =>
            rw [y, Option.none_or] at hs
            refine ⟨rfl, ?_⟩
            split at hs
            · cases hs
            · rename_i w; exact Bool.eq_false_iff.mpr w
        have hft : fa t = nI e ↔ jFar (jdx L) (jda L) e t = some e := by
          by_cases z1 : t = k
          · rw [z1, e2, hs, hs1]
            exact ⟨fun w => absurd ((jen_eq (fun m hm => by cases hm) (by omega)).mp w) (by simp), fun w => by cases w⟩
          · rw [e1 t tl z1]
            by_cases z2 : t < k
            · rw [if_pos z2, jen_eq (fun m hm => le (e + 1) t m (by omega) hm) (by omega)]
              exact jFar_at
            · rw [if_neg z2, jen_eq (fun m hm => le e t m (by omega) hm) (by omega)]
        refine kw_aload_n hB M_distances_118 rfl ?_
        refine kw_getf hB M_distances_119 f_M_71 tY.1 rfl ?_
        refine kw_iload hB M_distances_122 rfl ?_
        refine kn_iald hB M_distances_124 hY rfl (by omega) (by decide) ?_
        refine kw_iload_n hB M_distances_125 rfl ?_
        refine kw_iconst hB M_distances_126 (v := nI 1) (by decide) ?_
        refine kn_isub hB M_distances_127 (by omega) ?_
        rw [show e + 1 - 1 = e from rfl]
        refine kw_icmp_ne hB M_distances_128 (fun z2 => ?_) (fun z2 => ?_)
        · have hno : ¬ jFar (jdx L) (jda L) e t = some e := fun w => z2 (hft.mpr w)
          refine nx fa Y hY (fun _ _ => rfl) ?_ hf
          rw [e2, hs1, Option.none_or, Option.none_or, if_neg (by rw [hs2]; decide), if_neg]
          rw [jEb, hs2, Bool.false_or, ht, decide_eq_false hno]
          decide
        · have hyes : jFar (jdx L) (jda L) e t = some e := hft.mp z2
          refine kw_aload_n hB M_distances_131 rfl ?_
          refine kw_getf hB M_distances_132 f_M_71 tY.1 rfl ?_
          refine kw_iload_n hB M_distances_135 rfl ?_
          refine kw_iload_n hB M_distances_136 rfl ?_
          refine kn_iast hB M_distances_137 hY rfl (by omega) (by decide) ?_
          refine nx (upd fa k (nI (e + 1))) _ (su Y _ _ hY) (fun j hj => pk_un hj) ?_ (hf.tr (sf Y _))
          rw [pk_us, hs1, Option.none_or, if_pos]
          · rfl
          · rw [jEb, ht, decide_eq_true hyes, Bool.or_true]
  -- the states of a round
  have l64 : ∀ q e k (fa : Nat → Int32) (Y : ja_H) (w4 w5 : Value), k + q = 4 * L.1 → e < 95 → Y[166]? = some (.inl (0, 96, .inl fa)) → (∀ j, j < 4 * L.1 → fa j = jen (if j < k then jFar (jdx L) (jda L) (e + 1) j else jFar (jdx L) (jda L) e j)) → jfr [166] X Y → (∀ (fa : Nat → Int32) (Y : ja_H) (w3 w4 w5 : Value), Y[166]? = some (.inl (0, 96, .inl fa)) → (∀ j, j < 4 * L.1 → fa j = jen (jFar (jdx L) (jda L) (e + 1) j)) → jfr [166] X Y → K 56 [.ref 145, .int (nI a), .int (nI (e + 1 + 1)), w3, w4, w5] [] Y 0 0) → K 64 [.ref 145, .int (nI a), .int (nI (e + 1)), .int (nI k), w4, w5] [] Y 0 0 := by
    intro q
    induction q with
    | zero =>
      intro e k fa Y w4 w5 hk he95 hY e1 hf kk
      have tY := ht.fr hf no
      refine kw_iload_n hB M_distances_64 rfl ?_
      refine kw_iconst hB M_distances_65 (v := nI 4) (by decide) ?_
      refine kw_aload_n hB M_distances_66 rfl ?_
      refine kw_getf hB M_distances_67 f_M_37 tY.1 rfl ?_
      refine kw_iload_n hB M_distances_70 rfl ?_
      refine kn_iald hB M_distances_71 tY.2.1 rfl ha (by decide) ?_
      rw [hat.2.1]
      refine kn_imul hB M_distances_72 ?_
      refine kn_icmp_ge hB M_distances_73 (by omega) (by omega) (fun _ => ?_) (fun z => absurd z (by omega))
      refine kn_iinc hB M_distances_150 rfl (by decide) rfl ?_
      refine kw_goto hB M_distances_153 ?_
      exact kk fa Y _ _ _ hY (fun j hj => by rw [e1 j hj, if_pos (by omega)]) hf
    | succ q ih =>
      intro e k fa Y w4 w5 hk he95 hY e1 hf kk
      have tY := ht.fr hf no
      refine kw_iload_n hB M_distances_64 rfl ?_
      refine kw_iconst hB M_distances_65 (v := nI 4) (by decide) ?_
      refine kw_aload_n hB M_distances_66 rfl ?_
      refine kw_getf hB M_distances_67 f_M_37 tY.1 rfl ?_
      refine kw_iload_n hB M_distances_70 rfl ?_
      refine kn_iald hB M_distances_71 tY.2.1 rfl ha (by decide) ?_
      rw [hat.2.1]
      refine kn_imul hB M_distances_72 ?_
      refine kn_icmp_ge hB M_distances_73 (by omega) (by omega) (fun z => absurd z (by omega)) (fun _ => ?_)
      refine kw_iconst hB M_distances_76 (v := nI 1) (by decide) ?_
      refine kw_istore hB M_distances_77 (by decide) rfl ?_
      refine l79 8 0 e k fa Y w5 (by omega) he95 (by omega) hY (fun j hj _ => e1 j hj) ?_ hf (fun fa' Y' w4' w5' hY' e1' hf' => ih e (k + 1) fa' Y' w4' w5' (by omega) he95 hY' e1' hf' kk)
      rw [e1 k (by omega), if_neg (by omega)]
      cases jFar (jdx L) (jda L) e k <;> rfl
  -- the rounds
  have l56 : ∀ q e (fa : Nat → Int32) (Y : ja_H) (w3 w4 w5 : Value), e + q = 95 → Y[166]? = some (.inl (0, 96, .inl fa)) → (∀ j, j < 4 * L.1 → fa j = jen (jFar (jdx L) (jda L) e j)) → jfr [166] X Y → K 56 [.ref 145, .int (nI a), .int (nI (e + 1)), w3, w4, w5] [] Y 0 0 := by
    intro q
    induction q with
    | zero =>
      intro e fa Y w3 w4 w5 he95 hY e1 hf
      have tY := ht.fr hf no
      have he : e = 95 := by omega
      subst he
      refine kw_iload_n hB M_distances_56 rfl ?_
      refine kw_bipush hB M_distances_57 (v := nI 96) (by decide) ?_
      refine kn_icmp_ge hB M_distances_59 (by decide) (by decide) (fun _ => ?_) (fun z => absurd z (by decide))
      refine kw_aload_n hB M_distances_156 rfl ?_
      refine kw_getf hB M_distances_157 f_M_71 tY.1 rfl ?_
      refine kw_iconst hB M_distances_160 (v := nI 0) (by decide) ?_
      refine kn_iald hB M_distances_161 hY rfl (by decide) (by decide) ?_
      refine kw_iret hF rfl M_distances_162 ⟨by rw [e1 0 (by omega)]; rfl, fa, hY, e1, hf⟩ hf.1
    | succ q ih =>
      intro e fa Y w3 w4 w5 he95 hY e1 hf
      refine kw_iload_n hB M_distances_56 rfl ?_
      refine kw_bipush hB M_distances_57 (v := nI 96) (by decide) ?_
      refine kn_icmp_ge hB M_distances_59 (by omega) (by decide) (fun z => absurd z (by omega)) (fun _ => ?_)
      refine kw_iconst hB M_distances_62 (v := nI 0) (by decide) ?_
      refine kw_istore_n hB M_distances_63 rfl (by decide) rfl ?_
      exact l64 (4 * L.1) e 0 fa Y w4 w5 (by omega) (by omega) hY (fun j hj => by rw [e1 j hj, if_neg (by omega)]) hf (fun fa' Y' w3' w4' w5' hY' e1' hf' => ih (e + 1) fa' Y' w3' w4' w5' (by omega) hY' e1' hf')
  -- the ends
  have l2 : ∀ q k (fa : Nat → Int32) (Y : ja_H), k + q = 96 → Y[166]? = some (.inl (0, 96, .inl fa)) → (∀ j, j < k → j < 4 * L.1 → fa j = jen (jFar (jdx L) (jda L) 0 j)) → jfr [166] X Y → K 2 [.ref 145, .int (nI a), .int (nI k), .retAddr 0, .retAddr 0, .retAddr 0] [] Y 0 0 := by
    intro q
    induction q with
    | zero =>
      intro k fa Y hk hY e1 hf
      refine kw_iload_n hB M_distances_2 rfl ?_
      refine kw_bipush hB M_distances_3 (v := nI 96) (by decide) ?_
      refine kn_icmp_ge hB M_distances_5 (by omega) (by decide) (fun _ => ?_) (fun z => absurd z (by omega))
      refine kw_iconst hB M_distances_54 (v := nI 1) (by decide) ?_
      refine kw_istore_n hB M_distances_55 rfl (by decide) rfl ?_
      exact l56 95 0 fa Y _ _ _ (by omega) hY (fun j hj => e1 j (by omega) hj) hf
    | succ q ih =>
      intro k fa Y hk hY e1 hf
      have tY := ht.fr hf no
      have hl := hf.1
      have put : ∀ v : Int32, (k < 4 * L.1 → v = jen (jFar (jdx L) (jda L) 0 k)) → K 47 [.ref 145, .int (nI a), .int (nI k), .retAddr 0, .retAddr 0, .retAddr 0] [.int v, .int (nI k), .ref 166] Y 0 0 := by
        intro v hv
        refine kn_iast hB M_distances_47 hY rfl (by omega) (by decide) ?_
        refine kn_iinc hB M_distances_48 rfl (by decide) rfl ?_
        refine kw_goto hB M_distances_51 ?_
        refine ih (k + 1) (upd fa k v) _ (by omega) (su Y _ _ hY) (fun j hj hj4 => ?_) (hf.tr (sf Y _))
        by_cases z : j = k
        · subst z; rw [pk_us]; exact hv hj4
        · rw [pk_un z]; exact e1 j (by omega) hj4
      have none : (k < 4 * L.1 → jda L k = false) → K 46 [.ref 145, .int (nI a), .int (nI k), .retAddr 0, .retAddr 0, .retAddr 0] [.int (nI k), .ref 166] Y 0 0 := by
        intro hv
        refine kw_iconst hB M_distances_46 (v := -1) (by decide) ?_
        refine put _ (fun z => ?_)
        rw [jFar, if_neg (by rw [hv z]; decide)]; rfl
      refine kw_iload_n hB M_distances_2 rfl ?_
      refine kw_bipush hB M_distances_3 (v := nI 96) (by decide) ?_
      refine kn_icmp_ge hB M_distances_5 (by omega) (by decide) (fun z => absurd z (by omega)) (fun _ => ?_)
      refine kw_aload_n hB M_distances_8 rfl ?_
      refine kw_getf hB M_distances_9 f_M_71 tY.1 rfl ?_
      refine kw_iload_n hB M_distances_12 rfl ?_
      refine kw_iload_n hB M_distances_13 rfl ?_
      refine kw_iconst hB M_distances_14 (v := nI 4) (by decide) ?_
      refine kn_idiv hB M_distances_15 (by omega) (by decide) (by decide) ?_
      refine kw_aload_n hB M_distances_16 rfl ?_
      refine kw_getf hB M_distances_17 f_M_37 tY.1 rfl ?_
      refine kw_iload_n hB M_distances_20 rfl ?_
      refine kn_iald hB M_distances_21 tY.2.1 rfl ha (by decide) ?_
      rw [hat.2.1]
      refine kn_icmp_ge hB M_distances_22 (by omega) (by omega) (fun z => none (fun w => by omega)) (fun z => ?_)
      refine kw_aload_n hB M_distances_25 rfl ?_
      refine kw_iload_n hB M_distances_26 rfl ?_
      refine kw_iload_n hB M_distances_27 rfl ?_
      refine kw_iconst hB M_distances_28 (v := nI 4) (by decide) ?_
      refine kn_idiv hB M_distances_29 (by omega) (by decide) (by decide) ?_
      refine kw_callV hB M_distances_30 s_M_139 im_M_takes se_M_takes tY.1 rfl rfl (As := [.int (nI a), .int (nI (k / 4))]) (c_M_takes l D g tY hat ha (by omega)) rfl (by decide) (Nat.le_of_ble_eq_true rfl) (by omega) (by omega) (fun r X1 hq hl => ?_)
      obtain ⟨rfl, hxeq⟩ := hq
      obtain rfl := hxeq.symm
      refine kn_if_eq hB M_distances_33 (by cases L.2.1.testBit (k / 4) <;> decide) (fun z2 => none (fun _ => by unfold jda; rw [jb_f z2]; rfl)) (fun z2 => ?_)
      have z2 := jb_t z2
      refine kw_iload_n hB M_distances_36 rfl ?_
      refine kw_iconst hB M_distances_37 (v := nI 4) (by decide) ?_
      refine kn_irem hB M_distances_38 (by omega) (by decide) (by decide) ?_
      refine kw_if_le hB M_distances_39 (fun z3 => none (fun _ => ?_)) (fun z3 => ?_)
      · unfold jda
        have : ¬ 0 < k % 4 := fun w => absurd z3 (by rw [show (0 : Int32) = nI 0 from rfl, nI_leI (by omega) (by decide)]; omega)
        rw [decide_eq_false this, Bool.and_false]
      · refine kw_iconst hB M_distances_42 (v := nI 0) (by decide) ?_
        refine kw_goto hB M_distances_43 ?_
        refine put _ (fun _ => ?_)
        have : 0 < k % 4 := by
          refine Classical.byContradiction fun w => z3 ?_
          rw [show (0 : Int32) = nI 0 from rfl, nI_leI (by omega) (by decide)]; omega
        rw [jFar, if_pos (by unfold jda; rw [z2, decide_eq_true this]; rfl)]
        rfl
  refine kw_iconst hB M_distances_0 (v := nI 0) (by decide) ?_
  refine kw_istore_n hB M_distances_1 rfl (by decide) rfl ?_
  exact l2 96 0 fa0 X (by omega) hfa (fun j hj => absurd hj (by omega)) (jfr.rf _ _)
end JMD
