-- the model: spelled, holds
section JMR1
variable (l : Launch) (D : va_G) (g : Nat × Nat) {X : ja_H}
theorem jdec6 : ∀ p, p < 6 → nI (p + 1) + Int32.ofInt (-1) = nI p := by decide
set_option maxHeartbeats 4000000 in
set_option maxRecDepth 100000 in
theorem c_M_spelled {a : Nat} {t : Bool} (hd : jdg 4 a) (ha : a < 2 ^ 24) : AMet l D g 0 0 0 m_M_spelled [.int (nI a), .int (nI t.toNat)] X (fun r X' => r = some (.long (lN (jmap (fun c => jlet c t) a))) ∧ X' = X) := by
  refine ja_metK (by decide) rfl (Nat.le_of_ble_eq_true rfl) fun K hB hF => ?_
  have hf : ∀ c, 1 ≤ c → c ≤ 4 → 1 ≤ jlet c t ∧ jlet c t ≤ 8 := fun c h1 h2 => by unfold jlet; split <;> omega
  have loop : ∀ p (w : Value), p ≤ 6 → K 5 [.int (nI a), .int (nI t.toNat), .long (lN (jmap (fun c => jlet c t) (a / 16 ^ p))), .retAddr 0, .int (nI p + Int32.ofInt (-1)), w] [] X 0 0 := by
    intro p
    induction p with
    | zero =>
      intro w _
      refine kw_iload hB M_spelled_5 rfl ?_
      refine kw_if_lt hB M_spelled_7 (fun _ => ?_) (fun z => absurd (show nI 0 + Int32.ofInt (-1) < 0 by decide) z)
      refine kw_lload_n hB M_spelled_53 rfl ?_
      rw [Nat.pow_zero, Nat.div_one]
      refine kw_lret hF rfl M_spelled_54 ⟨rfl, rfl⟩ (by simp)
    | succ p ih =>
      intro w hp
      rw [jdec6 p (by omega)]
      have e1 : a / 16 ^ p / 16 = a / 16 ^ (p + 1) := by rw [Nat.div_div_eq_div_mul, ← Nat.pow_succ]
      have hdp := jdg_div p a hd
      have hlp : jmap (fun c => jlet c t) (a / 16 ^ (p + 1)) < 2 ^ 40 := by
        have h1 := jdg_div (p + 1) a hd
        obtain ⟨-, h2⟩ := jmap_dg (f := fun c => jlet c t) hf (by decide) _ h1
        have h3 : a / 16 ^ (p + 1) < 16 ^ 6 := Nat.lt_of_le_of_lt (Nat.div_le_self _ _) ha
        have h4 := jlen_le h3
        have h5 := jlen_lt (w := jmap (fun c => jlet c t) (a / 16 ^ (p + 1))) (n := 6) (by omega)
        have : (16 : Nat) ^ 6 < 2 ^ 40 := by decide
        omega
      have nx : ∀ v, v = jmap (fun c => jlet c t) (a / 16 ^ p) → ∀ w', K 46 [.int (nI a), .int (nI t.toNat), .long (lN (jmap (fun c => jlet c t) (a / 16 ^ (p + 1)))), .retAddr 0, .int (nI p), w'] [.long (lN v)] X 0 0 := by
        intro v hv w'
        subst hv
        refine kw_lstore_n hB M_spelled_46 rfl (by decide) rfl ?_
        refine kw_iinc hB M_spelled_47 rfl rfl (by decide) rfl ?_
        refine kw_goto hB M_spelled_50 ?_
        exact ih w' (by omega)
      refine kw_iload hB M_spelled_5 rfl ?_
      refine kw_if_lt hB M_spelled_7 (fun z => absurd z (nI_pos (by omega))) (fun _ => ?_)
      refine kw_iload_n hB M_spelled_10 rfl ?_
      refine kw_iconst hB M_spelled_11 (v := nI 4) (by decide) ?_
      refine kw_iload hB M_spelled_12 rfl ?_
      refine kn_imul hB M_spelled_14 ?_
      refine kn_ishr hB M_spelled_15 (by omega) (by omega) ?_
      rw [jp16]
      refine kw_bipush hB M_spelled_16 (v := nI 15) (by decide) ?_
      refine kn_iand hB M_spelled_18 ?_
      rw [show a / 16 ^ p &&& 15 = a / 16 ^ p % 16 from Nat.and_two_pow_sub_one_eq_mod _ 4]
      refine kw_istore hB M_spelled_19 (by decide) rfl ?_
      refine kw_iload hB M_spelled_21 rfl ?_
      by_cases h0 : a / 16 ^ p = 0
      · refine kw_if_le hB M_spelled_23 (fun _ => ?_) (fun z => absurd (by rw [h0]; decide) z)
        refine kw_lload_n hB M_spelled_45 rfl ?_
        refine nx _ ?_ _
        rw [← e1, h0]
      · obtain ⟨⟨d1, d2⟩, -⟩ := (jdg_s h0).mp hdp
        refine kw_if_le hB M_spelled_23 (fun z => absurd ((nI_leI (b := 0) (by omega) (by decide)).mp z) (by omega)) (fun _ => ?_)
        refine kw_ldc2 hB M_spelled_26 (v := 16) (jm 1192 (by decide +kernel) rfl) ?_
        refine kw_lload_n hB M_spelled_29 rfl ?_
        refine kl_lmul hB M_spelled_30 (a := 16) ?_
        refine kw_iconst hB M_spelled_31 (v := nI 2) (by decide) ?_
        refine kw_iload hB M_spelled_32 rfl ?_
        refine kn_imul hB M_spelled_34 ?_
        refine kl_i2l hB M_spelled_35 (by omega) ?_
        refine kl_ladd hB M_spelled_36 ?_
        refine kw_lconst hB M_spelled_37 (v := lN 1) (by decide) ?_
        refine kl_lsub hB M_spelled_38 (by omega) ?_
        refine kw_iload_n hB M_spelled_39 rfl ?_
        refine kl_i2l hB M_spelled_40 (by cases t <;> decide) ?_
        refine kl_ladd hB M_spelled_41 ?_
        refine kw_goto hB M_spelled_42 ?_
        refine nx _ ?_ _
        rw [jmap_s _ h0, e1]
        unfold jlet
        cases t with
        | true => show _ + 1 = _ + (if true = true then _ else _); rw [if_pos rfl]; omega
        | false => show _ + 0 = _ + (if false = true then _ else _); rw [if_neg (by decide)]; omega
  refine kw_lconst hB M_spelled_0 (v := lN 0) (by decide) ?_
  refine kw_lstore_n hB M_spelled_1 rfl (by decide) rfl ?_
  refine kw_iconst hB M_spelled_2 (v := nI 6 + Int32.ofInt (-1)) (by decide) ?_
  refine kw_istore hB M_spelled_3 (by decide) rfl ?_
  have := loop 6 (.retAddr 0) (Nat.le_refl _)
  rw [show a / 16 ^ 6 = 0 from Nat.div_eq_of_lt ha, jmap_0] at this
  exact this
end JMR1
