-- the model: holds
section JMR2
variable (l : Launch) (D : va_G) (g : Nat × Nat) {X : ja_H}
set_option maxHeartbeats 8000000 in
set_option maxRecDepth 100000 in
theorem c_M_holds {i v kk ss w : Nat} {sc wh on tw th dp bg ol el bk : Nat → Int32} {vl : Nat → Int64} (hc : X[145]? = some (jMo sc)) (hp : jPa X wh on tw th dp bg ol el bk) (hvl : X[168]? = some (.inl (1, 5, .inr (.inl vl)))) (hi : i < 24) (h1 : on i = nI v) (h2 : tw i = nI kk) (h3 : th i = nI ss) (hv : v < 5) (hk : kk < 3) (hs : ss < 16) (hw : vl v = lN w) (hj : jwv w) : AMet l D g 2 0 0 m_M_holds [.ref 145, .int (nI i)] X (fun r X' => r = some (.int (nI (jmeet w kk ss).toNat)) ∧ X' = X) := by
  have h60 : w < 2 ^ 60 := hj.2
  have h15 : jlen w ≤ 15 := jlen_le (show w < 16 ^ 15 from h60)
  have hd8 : ∀ j, j < jlen w → 1 ≤ jdig w (jlen w) j ∧ jdig w (jlen w) j ≤ 8 := fun j hj' => hj.dig hj'
  refine ja_metK (by decide) rfl (Nat.le_of_ble_eq_true rfl) fun K hB hF => ?_
  -- the last comparison
  have last : ∀ (j : Nat) (u q : Value), j < jlen w → (jmeet w kk ss = decide (jsym (jdig w (jlen w) j) = ss)) → K 104 [.ref 145, .int (nI i), .long (lN w), .retAddr 0, .int (nI (jlen w)), u, q] [.int (nI j), .long (lN w)] X 0 0 := by
    intro j u q hj' he
    have hd := hd8 j hj'
    refine kw_callS hB M_holds_104 s_M_277 st_M_letter (As := [.long (lN w), .int (nI j)]) (c_M_letter l D g h60 hj') rfl (by decide) (Nat.le_of_ble_eq_true rfl) (by omega) (by omega) (fun r X1 hq hl => ?_)
    obtain ⟨rfl, hxeq⟩ := hq
    obtain rfl := hxeq.symm
    refine kw_iconst hB M_holds_107 (v := nI 1) (by decide) ?_
    refine kn_iadd hB M_holds_108 ?_
    refine kw_iconst hB M_holds_109 (v := nI 2) (by decide) ?_
    refine kn_idiv hB M_holds_110 (by omega) (by decide) (by decide) ?_
    refine kw_aload_n hB M_holds_111 rfl ?_
    refine kw_getf hB M_holds_112 f_M_19 hc rfl ?_
    refine kw_iload_n hB M_holds_115 rfl ?_
    refine kn_iald hB M_holds_116 hp.2.2.2.1 rfl (by omega) (by decide) ?_
    rw [h3, show (jdig w (jlen w) j + 1) / 2 = jsym (jdig w (jlen w) j) from rfl]
    have hsy : jsym (jdig w (jlen w) j) < 16 := by unfold jsym; omega
    refine kn_icmp_ne hB M_holds_117 (by omega) (by omega) (fun z => ?_) (fun z => ?_)
    · refine kw_iconst hB M_holds_124 (v := nI 0) (by decide) ?_
      refine kw_zret hF rfl (by first | rfl | decide) M_holds_125 ?_ (by first | (simp [jLs_len]; done) | (simp [*]; done))
      exact ⟨by rw [he, decide_eq_false z]; rfl, rfl⟩
    · refine kw_iconst hB M_holds_120 (v := nI 1) (by decide) ?_
      refine kw_goto hB M_holds_121 ?_
      refine kw_zret hF rfl (by first | rfl | decide) M_holds_125 ?_ (by first | (simp [jLs_len]; done) | (simp [*]; done))
      exact ⟨by rw [he, decide_eq_true z]; rfl, rfl⟩
  -- behind the letters
  have b68 : ∀ (q : Value), K 68 [.ref 145, .int (nI i), .long (lN w), .retAddr 0, .int (nI (jlen w)), .int (nI (jEb (fun j => decide (jsym (jdig w (jlen w) j) = ss)) (jlen w)).toNat), q] [] X 0 0 := by
    intro q
    have ret : (kk = 0 ∨ jlen w = 0) → K 82 [.ref 145, .int (nI i), .long (lN w), .retAddr 0, .int (nI (jlen w)), .int (nI (jEb (fun j => decide (jsym (jdig w (jlen w) j) = ss)) (jlen w)).toNat), q] [] X 0 0 := by
      intro hor
      refine kw_iload hB M_holds_82 rfl ?_
      refine kw_zret hF rfl (by cases jEb (fun j => decide (jsym (jdig w (jlen w) j) = ss)) (jlen w) <;> decide) M_holds_84 ⟨?_, rfl⟩ (by simp)
      have : jEb (fun j => decide (jsym (jdig w (jlen w) j) = ss)) (jlen w) = jmeet w kk ss := by
        unfold jmeet
        by_cases k0 : kk = 0
        · rw [if_pos k0]
          by_cases hex : ∃ j, j < jlen w ∧ jsym (jdig w (jlen w) j) = ss
          · rw [decide_eq_true hex]
            obtain ⟨j, j1, j2⟩ := hex
            exact (jEb_iff _ _).mpr ⟨j, j1, decide_eq_true j2⟩
          · rw [decide_eq_false hex]
            cases hb : jEb (fun j => decide (jsym (jdig w (jlen w) j) = ss)) (jlen w) with
            | false => rfl
            | true =>
              obtain ⟨j, j1, j2⟩ := (jEb_iff _ _).mp hb
              exact absurd ⟨j, j1, of_decide_eq_true j2⟩ hex
        · have hl0 := hor.resolve_left k0
          rw [if_neg k0, hl0]
          split <;> rfl
      rw [this]
    refine kw_aload_n hB M_holds_68 rfl ?_
    refine kw_getf hB M_holds_69 f_M_16 hc rfl ?_
    refine kw_iload_n hB M_holds_72 rfl ?_
    refine kn_iald hB M_holds_73 hp.2.2.1 rfl (by omega) (by decide) ?_
    rw [h2]
    refine kn_if_eq hB M_holds_74 (by omega) (fun z => ret (Or.inl z)) (fun z => ?_)
    refine kw_iload hB M_holds_77 rfl ?_
    refine kn_if_ne hB M_holds_79 (by omega) (fun z2 => ?_) (fun z2 => ret (Or.inr z2))
    refine kw_lload_n hB M_holds_85 rfl ?_
    refine kw_aload_n hB M_holds_86 rfl ?_
    refine kw_getf hB M_holds_87 f_M_16 hc rfl ?_
    refine kw_iload_n hB M_holds_90 rfl ?_
    refine kn_iald hB M_holds_91 hp.2.2.1 rfl (by omega) (by decide) ?_
    rw [h2]
    refine kw_iconst hB M_holds_92 (v := nI 1) (by decide) ?_
    have hpos : 0 < jlen w := by omega
    refine kn_icmp_ne hB M_holds_93 (by omega) (by decide) (fun z3 => ?_) (fun z3 => ?_)
    · refine kw_iload hB M_holds_100 rfl ?_
      refine kw_iconst hB M_holds_102 (v := nI 1) (by decide) ?_
      refine kn_isub hB M_holds_103 (by omega) ?_
      refine last (jlen w - 1) _ _ (by omega) ?_
      unfold jmeet
      rw [if_neg z, if_neg z3]
      simp only [hpos, true_and]
    · refine kw_iconst hB M_holds_96 (v := nI 0) (by decide) ?_
      refine kw_goto hB M_holds_97 ?_
      refine last 0 _ _ (by omega) ?_
      unfold jmeet
      rw [if_neg z, if_pos z3]
      simp only [hpos, true_and]
  have loop : ∀ p j, j + p = jlen w → K 24 [.ref 145, .int (nI i), .long (lN w), .retAddr 0, .int (nI (jlen w)), .int (nI (jEb (fun j => decide (jsym (jdig w (jlen w) j) = ss)) j).toNat), .int (nI j)] [] X 0 0 := by
    intro p
    induction p with
    | zero =>
      intro j hj'
      have hj' : j = jlen w := by omega
      subst hj'
      refine kw_iload hB M_holds_24 rfl ?_
      refine kw_iload hB M_holds_26 rfl ?_
      refine kn_icmp_ge hB M_holds_28 (by omega) (by omega) (fun _ => b68 _) (fun z => absurd z (by omega))
    | succ p ih =>
      intro j hj'
      have nx : ∀ b : Bool, b = jEb (fun j => decide (jsym (jdig w (jlen w) j) = ss)) (j + 1) → K 60 [.ref 145, .int (nI i), .long (lN w), .retAddr 0, .int (nI (jlen w)), .int (nI (jEb (fun j => decide (jsym (jdig w (jlen w) j) = ss)) j).toNat), .int (nI j)] [.int (nI b.toNat)] X 0 0 := by
        intro b hb
        subst hb
        refine kw_istore hB M_holds_60 (by decide) rfl ?_
        refine kn_iinc hB M_holds_62 rfl (by decide) rfl ?_
        refine kw_goto hB M_holds_65 ?_
        exact ih (j + 1) (by omega)
      refine kw_iload hB M_holds_24 rfl ?_
      refine kw_iload hB M_holds_26 rfl ?_
      refine kn_icmp_ge hB M_holds_28 (by omega) (by omega) (fun z => absurd z (by omega)) (fun _ => ?_)
      refine kw_iload hB M_holds_31 rfl ?_
      refine kn_if_ne hB M_holds_33 (by cases jEb (fun j => decide (jsym (jdig w (jlen w) j) = ss)) j <;> decide) (fun z => ?_) (fun z => ?_)
      · refine kw_iconst hB M_holds_55 (v := nI 1) (by decide) ?_
        refine kw_goto hB M_holds_56 ?_
        exact nx true (by rw [jEb, jb_t z]; rfl)
      · have hd := hd8 j (by omega)
        refine kw_lload_n hB M_holds_36 rfl ?_
        refine kw_iload hB M_holds_37 rfl ?_
        refine kw_callS hB M_holds_39 s_M_277 st_M_letter (As := [.long (lN w), .int (nI j)]) (c_M_letter l D g h60 (by omega)) rfl (by decide) (Nat.le_of_ble_eq_true rfl) (by omega) (by omega) (fun r X1 hq hl => ?_)
        obtain ⟨rfl, hxeq⟩ := hq
        obtain rfl := hxeq.symm
        refine kw_iconst hB M_holds_42 (v := nI 1) (by decide) ?_
        refine kn_iadd hB M_holds_43 ?_
        refine kw_iconst hB M_holds_44 (v := nI 2) (by decide) ?_
        refine kn_idiv hB M_holds_45 (by omega) (by decide) (by decide) ?_
        refine kw_aload_n hB M_holds_46 rfl ?_
        refine kw_getf hB M_holds_47 f_M_19 hc rfl ?_
        refine kw_iload_n hB M_holds_50 rfl ?_
        refine kn_iald hB M_holds_51 hp.2.2.2.1 rfl (by omega) (by decide) ?_
        rw [h3, show (jdig w (jlen w) j + 1) / 2 = jsym (jdig w (jlen w) j) from rfl]
        have hsy : jsym (jdig w (jlen w) j) < 16 := by unfold jsym; omega
        refine kn_icmp_ne hB M_holds_52 (by omega) (by omega) (fun z2 => ?_) (fun z2 => ?_)
        · refine kw_iconst hB M_holds_59 (v := nI 0) (by decide) ?_
          exact nx false (by rw [jEb, jb_f z, decide_eq_false z2]; rfl)
        · refine kw_iconst hB M_holds_55 (v := nI 1) (by decide) ?_
          refine kw_goto hB M_holds_56 ?_
          exact nx true (by rw [jEb, jb_f z, decide_eq_true z2]; rfl)
  refine kw_aload_n hB M_holds_0 rfl ?_
  refine kw_getf hB M_holds_1 f_M_77 hc rfl ?_
  refine kw_aload_n hB M_holds_4 rfl ?_
  refine kw_getf hB M_holds_5 f_M_13 hc rfl ?_
  refine kw_iload_n hB M_holds_8 rfl ?_
  refine kn_iald hB M_holds_9 hp.2.1 rfl (by omega) (by decide) ?_
  rw [h1]
  refine kn_lald hB M_holds_10 hvl rfl hv (by decide) ?_
  rw [hw]
  refine kw_lstore_n hB M_holds_11 rfl (by decide) rfl ?_
  refine kw_lload_n hB M_holds_12 rfl ?_
  refine kw_callS hB M_holds_13 s_M_267 st_M_lengthOf (As := [.long (lN w)]) (c_M_lengthOf l D g (by omega)) rfl (by decide) (Nat.le_of_ble_eq_true rfl) (by omega) (by omega) (fun r X1 hq hl => ?_)
  obtain ⟨rfl, hxeq⟩ := hq
  obtain rfl := hxeq.symm
  refine kw_istore hB M_holds_16 (by decide) rfl ?_
  refine kw_iconst hB M_holds_18 (v := nI 0) (by decide) ?_
  refine kw_istore hB M_holds_19 (by decide) rfl ?_
  refine kw_iconst hB M_holds_21 (v := nI 0) (by decide) ?_
  refine kw_istore hB M_holds_22 (by decide) rfl ?_
  exact loop (jlen w) 0 (by omega)
end JMR2
