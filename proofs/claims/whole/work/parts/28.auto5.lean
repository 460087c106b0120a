-- Automaton: spreadGood, letters, reduce
section JB5
variable (l : Launch) (D : va_G) (g : Nat × Nat) {X : ja_H}
set_option maxHeartbeats 8000000 in
set_option maxRecDepth 100000 in
theorem c_B_spreadGood {b n : Nat} {nx gd ky so en kd fk : Nat → Int32} {lk : Nat → Int64} {δ : Nat → Nat} {a : Nat → Bool} (h : jBr X b (nI n) nx gd ky so en kd fk lk) (hn : n ≤ 1536) (h1n : 1 ≤ n) (hnx : ∀ s, s < 8 * n → nx s = nI (δ s)) (hδ : ∀ s, s < 8 * n → δ s < n) (hgd : ∀ i, i < n → gd i = nI (a i).toNat) :
    AMet l D g 0 0 0 m_B_spreadGood [.ref b] X (fun r X' => jfr (jBS b) X X' ∧ ∃ (mr : Bool) (a' : Nat → Bool) (gd' : Nat → Int32), r = some (.int (nI mr.toNat)) ∧ jBr X' b (nI n) nx gd' ky so en kd fk lk ∧ (∀ i, i < n → gd' i = nI (a' i).toNat) ∧ (∀ i, i < n → a i = true → a' i = true) ∧ (∀ i, i < n → a' i = true → jcan δ a i) ∧ (mr = true → ∃ j, j < n ∧ a j = false ∧ a' j = true) ∧ (mr = false → ∀ i c, i < n → c < 8 → a' (δ (i * 8 + c)) = true → a' i = true)) := by
  refine ja_metK (by decide) rfl (Nat.le_of_ble_eq_true rfl) fun K hB hF => ?_
  -- what holds while the states from i on have been looked at
  have outer : ∀ i (mr : Bool) (a' : Nat → Bool) (gd : Nat → Int32) (Y : ja_H) (w : Value) (x : Int32), i ≤ n → (1 ≤ i → x = nI (i - 1)) → (i = 0 → x = -1) → (∀ s, s < n → gd s = nI (a' s).toNat) → (∀ s, s < n → a s = true → a' s = true) → (∀ s, s < n → a' s = true → jcan δ a s) → (mr = true → ∃ j, j < n ∧ a j = false ∧ a' j = true) → (mr = false → (∀ s, s < n → a' s = a s) ∧ ∀ s c, i ≤ s → s < n → c < 8 → a' (δ (s * 8 + c)) = true → a' s = true) → jBr Y b (nI n) nx gd ky so en kd fk lk → jfr (jBS b) X Y → K 9 [.ref b, .int (nI mr.toNat), .int x, w] [] Y 0 0 := by
    intro i
    induction i with
    | zero =>
      intro mr a' gd Y w x hi hx1 hx0 hg hup hcan hm1 hm0 hb hf
      rw [hx0 rfl]
      refine kw_iload_n hB B_spreadGood_9 rfl ?_
      refine kw_if_lt hB B_spreadGood_10 (fun _ => ?_) (fun hc => absurd (by decide) hc)
      refine kw_iload_n hB B_spreadGood_72 rfl ?_
      refine kw_zret hF rfl (by cases mr <;> decide) B_spreadGood_73 ?_ (by rw [hf.1]; rfl)
      exact ⟨hf, mr, a', gd, rfl, hb, hg, hup, hcan, hm1, fun z => fun s c hs hc => (hm0 z).2 s c (by omega) hs hc⟩
    | succ i ih =>
      intro mr a' gd Y w x hi hx1 hx0 hg hup hcan hm1 hm0 hb hf
      rw [hx1 (by omega), show i + 1 - 1 = i by omega]
      refine kw_iload_n hB B_spreadGood_9 rfl ?_
      refine kw_if_lt hB B_spreadGood_10 (fun hc => absurd hc (nI_pos (by omega))) (fun _ => ?_)
      refine kw_iload_n hB B_spreadGood_13 rfl ?_
      refine kw_bipush hB B_spreadGood_14 (v := nI 8) (by decide) ?_
      refine kn_imul hB B_spreadGood_16 ?_
      refine kw_istore_n hB B_spreadGood_17 rfl (by decide) rfl ?_
      have fin : ∀ (mr : Bool) (a' : Nat → Bool) (gd : Nat → Int32) (Y : ja_H) (w : Value), (∀ s, s < n → gd s = nI (a' s).toNat) → (∀ s, s < n → a s = true → a' s = true) → (∀ s, s < n → a' s = true → jcan δ a s) → (mr = true → ∃ j, j < n ∧ a j = false ∧ a' j = true) → (mr = false → (∀ s, s < n → a' s = a s) ∧ ∀ s c, i ≤ s → s < n → c < 8 → a' (δ (s * 8 + c)) = true → a' s = true) → jBr Y b (nI n) nx gd ky so en kd fk lk → jfr (jBS b) X Y → K 66 [.ref b, .int (nI mr.toNat), .int (nI i), w] [] Y 0 0 := by
        intro mr a' gd Y w hg hup hcan hm1 hm0 hb hf
        by_cases h0 : i = 0
        · subst h0
          refine kw_iinc hB B_spreadGood_66 rfl (v := -1) (by decide) (by decide) rfl ?_
          refine kw_goto hB B_spreadGood_69 ?_
          exact ih mr a' gd Y w (-1) (by omega) (fun z => by omega) (fun _ => rfl) hg hup hcan hm1 hm0 hb hf
        · refine kw_iinc hB B_spreadGood_66 rfl (v := nI (i - 1)) (by
            have := pk_m1 (i - 1)
            rw [show i - 1 + 1 = i by omega] at this
            exact this) (by decide) rfl ?_
          refine kw_goto hB B_spreadGood_69 ?_
          exact ih mr a' gd Y w (nI (i - 1)) (by omega) (fun _ => rfl) (fun z => absurd z h0) hg hup hcan hm1 hm0 hb hf
      have inner : ∀ p c (mr : Bool) (a' : Nat → Bool) (gd : Nat → Int32) (Y : ja_H), c + p = 8 → (∀ s, s < n → gd s = nI (a' s).toNat) → (∀ s, s < n → a s = true → a' s = true) → (∀ s, s < n → a' s = true → jcan δ a s) → (mr = true → ∃ j, j < n ∧ a j = false ∧ a' j = true) → (mr = false → (∀ s, s < n → a' s = a s) ∧ (∀ s c, i + 1 ≤ s → s < n → c < 8 → a' (δ (s * 8 + c)) = true → a' s = true) ∧ (a' i = true ∨ ∀ c', c' < c → a' (δ (i * 8 + c')) = false)) → jBr Y b (nI n) nx gd ky so en kd fk lk → jfr (jBS b) X Y → K 18 [.ref b, .int (nI mr.toNat), .int (nI i), .int (nI (i * 8 + c))] [] Y 0 0 := by
        intro p
        induction p with
        | zero =>
          intro c mr a' gd Y hc8 hg hup hcan hm1 hm0 hb hf
          refine kw_iload_n hB B_spreadGood_18 rfl ?_
          refine kw_iload_n hB B_spreadGood_19 rfl ?_
          refine kw_iconst hB B_spreadGood_20 (v := nI 1) (by decide) ?_
          refine kn_iadd hB B_spreadGood_21 ?_
          refine kw_bipush hB B_spreadGood_22 (v := nI 8) (by decide) ?_
          refine kn_imul hB B_spreadGood_24 ?_
          refine kn_icmp_ge hB B_spreadGood_25 (by omega) (by omega) (fun hc => ?_) (fun hc => absurd hc (by omega))
          refine fin mr a' gd Y _ hg hup hcan hm1 (fun z => ?_) hb hf
          obtain ⟨z1, z2, z3⟩ := hm0 z
          refine ⟨z1, fun s c' hs hsn hc' he => ?_⟩
          by_cases hsi : s = i
          · subst hsi
            rcases z3 with z3 | z3
            · exact z3
            · rw [z3 c' (by omega)] at he; cases he
          · exact z2 s c' (by omega) hsn hc' he
        | succ p ihp =>
          intro c mr a' gd Y hc8 hg hup hcan hm1 hm0 hb hf
          have hda := hδ (i * 8 + c) (by omega)
          refine kw_iload_n hB B_spreadGood_18 rfl ?_
          refine kw_iload_n hB B_spreadGood_19 rfl ?_
          refine kw_iconst hB B_spreadGood_20 (v := nI 1) (by decide) ?_
          refine kn_iadd hB B_spreadGood_21 ?_
          refine kw_bipush hB B_spreadGood_22 (v := nI 8) (by decide) ?_
          refine kn_imul hB B_spreadGood_24 ?_
          refine kn_icmp_ge hB B_spreadGood_25 (by omega) (by omega) (fun hc => absurd hc (by omega)) (fun hc => ?_)
          refine kw_aload_n hB B_spreadGood_28 rfl ?_
          refine kw_getf hB B_spreadGood_29 f_B_19 hb.1 rfl ?_
          refine kw_iload_n hB B_spreadGood_32 rfl ?_
          refine kn_zald hB B_spreadGood_33 hb.2.2.1 rfl (by omega) (by decide) ?_
          rw [hg i (by omega)]
          refine kn_if_ne hB B_spreadGood_34 (by cases a' i <;> decide) (fun hz => ?_) (fun hz => ?_)
          · have hai := jb_t hz
            refine fin mr a' gd Y _ hg hup hcan hm1 (fun z => ?_) hb hf
            obtain ⟨z1, z2, z3⟩ := hm0 z
            refine ⟨z1, fun s c' hs hsn hc' he => ?_⟩
            by_cases hsi : s = i
            · subst hsi; exact hai
            · exact z2 s c' (by omega) hsn hc' he
          · have hai := jb_f hz
            refine kw_aload_n hB B_spreadGood_37 rfl ?_
            refine kw_getf hB B_spreadGood_38 f_B_19 hb.1 rfl ?_
            refine kw_aload_n hB B_spreadGood_41 rfl ?_
            refine kw_getf hB B_spreadGood_42 f_B_15 hb.1 rfl ?_
            refine kw_iload_n hB B_spreadGood_45 rfl ?_
            refine kn_iald hB B_spreadGood_46 hb.2.1 rfl (by omega) (by decide) ?_
            rw [hnx _ (by omega)]
            refine kn_zald hB B_spreadGood_47 hb.2.2.1 rfl (by omega) (by decide) ?_
            rw [hg _ hda]
            refine kn_if_eq hB B_spreadGood_48 (by cases a' (δ (i * 8 + c)) <;> decide) (fun hy => ?_) (fun hy => ?_)
            · refine kn_iinc hB B_spreadGood_60 rfl (by decide) rfl ?_
              refine kw_goto hB B_spreadGood_63 ?_
              refine ihp (c + 1) mr a' gd Y (by omega) hg hup hcan hm1 (fun z => ?_) hb hf
              obtain ⟨z1, z2, z3⟩ := hm0 z
              refine ⟨z1, z2, Or.inr (fun c' hc' => ?_)⟩
              by_cases hcc : c' = c
              · subst hcc; exact jb_f hy
              · rcases z3 with z3 | z3
                · rw [hai] at z3; cases z3
                · exact z3 c' (by omega)
            · have hay := jb_t hy
              refine kw_aload_n hB B_spreadGood_51 rfl ?_
              refine kw_getf hB B_spreadGood_52 f_B_19 hb.1 rfl ?_
              refine kw_iload_n hB B_spreadGood_55 rfl ?_
              refine kw_iconst hB B_spreadGood_56 (v := nI 1) (by decide) ?_
              refine kn_zast hB B_spreadGood_57 hb.2.2.1 rfl (by omega) (by decide) ?_
              rw [show vp_nar .boolean (nI 1) = nI 1 from jnar true]
              have hb1 := hb.s_gd (f' := upd gd i (nI 1))
              have hf1 := hf.tr (jBS_set Y b 2 (.inl (2, 1536, .inl (upd gd i (nI 1)))) (by decide))
              refine kw_iconst hB B_spreadGood_58 (v := nI 1) (by decide) ?_
              refine kw_istore_n hB B_spreadGood_59 rfl (by decide) rfl ?_
              refine kn_iinc hB B_spreadGood_60 rfl (by decide) rfl ?_
              refine kw_goto hB B_spreadGood_63 ?_
              have hai0 : a i = false := by cases hb : a i with | false => rfl | true => rw [hup i (by omega) hb] at hai; cases hai
              refine ihp (c + 1) true (va_up a' i true) _ _ (by omega) (fun s hs => ?_) (fun s hs hsa => ?_) (fun s hs hsa => ?_) (fun _ => ⟨i, by omega, hai0, jup_self⟩) (fun z => by cases z) hb1 hf1
              · by_cases hsi : s = i
                · subst hsi; rw [pk_us, jup_self]; rfl
                · rw [pk_un hsi, jup_ne hsi]; exact hg s hs
              · by_cases hsi : s = i
                · subst hsi; rw [jup_self]
                · rw [jup_ne hsi]; exact hup s hs hsa
              · by_cases hsi : s = i
                · subst hsi; exact jcan.step (by omega) (hcan _ hda hay)
                · rw [jup_ne hsi] at hsa; exact hcan s hs hsa
      refine inner 8 0 mr a' gd Y (by omega) hg hup hcan hm1 (fun z => ?_) hb hf
      obtain ⟨z1, z2⟩ := hm0 z
      exact ⟨z1, z2, Or.inr (fun c' hc' => absurd hc' (by omega))⟩
  refine kw_iconst hB B_spreadGood_0 (v := nI 0) (by decide) ?_
  refine kw_istore_n hB B_spreadGood_1 rfl (by decide) rfl ?_
  refine kw_aload_n hB B_spreadGood_2 rfl ?_
  refine kw_getf hB B_spreadGood_3 f_B_48 h.1 rfl ?_
  refine kw_iconst hB B_spreadGood_6 (v := nI 1) (by decide) ?_
  refine kn_isub hB B_spreadGood_7 (by omega) ?_
  refine kw_istore_n hB B_spreadGood_8 rfl (by decide) rfl ?_
  exact outer n false a gd X _ (nI (n - 1)) (by omega) (fun _ => rfl) (fun z => by omega) hgd (fun _ _ z => z) (fun s _ z => jcan.self z) (fun z => by cases z) (fun _ => ⟨fun _ _ => rfl, fun s c hs hsn => by omega⟩) h (jfr.rf _ _)
theorem jcan.trans {δ : Nat → Nat} {a a' : Nat → Bool} {n : Nat} (hδ : ∀ s, s < 8 * n → δ s < n) (h : ∀ i, i < n → a' i = true → jcan δ a i) : ∀ i, i < n → jcan δ a' i → jcan δ a i := by
  rintro i hi ⟨w, h1, h2⟩
  induction w generalizing i with
  | nil => exact h i hi h2
  | cons c w ih =>
    have hc8 := h1 c List.mem_cons_self
    exact jcan.step hc8 (ih (δ (i * 8 + c)) (hδ _ (by omega)) (fun x hx => h1 x (List.mem_cons_of_mem _ hx)) h2)
/-- the letters of the first t ways that lead to states for which a holds -/
def jltr (δ : Nat → Nat) (a : Nat → Bool) : Nat → Nat
  | 0 => 0
  | t + 1 => if a (δ t) then jltr δ a t ||| 2 ^ (t % 8) else jltr δ a t
theorem jltr_lt (δ : Nat → Nat) (a : Nat → Bool) : ∀ t, jltr δ a t < 2 ^ 8
  | 0 => by show 0 < 2 ^ 8; decide
  | t + 1 => by
    rw [jltr]
    split
    · exact Nat.or_lt_two_pow (jltr_lt δ a t) (Nat.pow_lt_pow_right (by decide) (Nat.mod_lt _ (by decide)))
    · exact jltr_lt δ a t
theorem jltr_bit (δ : Nat → Nat) (a : Nat → Bool) (c : Nat) (hc : c < 8) : ∀ t, (jltr δ a t).testBit c = true ↔ ∃ s, s < t ∧ s % 8 = c ∧ a (δ s) = true := by
  intro t
  induction t with
  | zero => simp [jltr]
  | succ t ih =>
    rw [jltr]
    split
    · rename_i h
      rw [Nat.testBit_or, Bool.or_eq_true, ih, Nat.testBit_two_pow]
      constructor
      · rintro (⟨j, h1, h2⟩ | h1)
        · exact ⟨j, by omega, h2⟩
        · exact ⟨t, by omega, by simpa using h1, h⟩
      · rintro ⟨j, h1, h2, h3⟩
        by_cases hj : j = t
        · subst hj; right; simpa using h2
        · left; exact ⟨j, by omega, h2, h3⟩
    · rename_i h
      rw [ih]
      constructor
      · rintro ⟨j, h1, h2⟩; exact ⟨j, by omega, h2⟩
      · rintro ⟨j, h1, h2, h3⟩
        refine ⟨j, ?_, h2, h3⟩
        by_cases hj : j = t
        · subst hj; exact absurd h3 h
        · omega
set_option maxHeartbeats 8000000 in
set_option maxRecDepth 100000 in
theorem c_B_letters {b n : Nat} {nx gd ky so en kd fk : Nat → Int32} {lk : Nat → Int64} {δ : Nat → Nat} {a : Nat → Bool} (h : jBr X b (nI n) nx gd ky so en kd fk lk) (hn : n ≤ 1536) (h1n : 1 ≤ n) (hnx : ∀ s, s < 8 * n → nx s = nI (δ s)) (hδ : ∀ s, s < 8 * n → δ s < n) (hgd : ∀ i, i < n → gd i = nI (a i).toNat) :
    AMet l D g 1 0 0 m_B_letters [.ref b] X (fun r X' => jfr (jBS b) X X' ∧ ∃ (S : Nat) (gd' : Nat → Int32), r = some (.int (nI S)) ∧ jBr X' b (nI n) nx gd' ky so en kd fk lk ∧ S < 256 ∧ ∀ c, c < 8 → (S.testBit c = true ↔ ∃ i, i < n ∧ jcan δ a (δ (i * 8 + c)))) := by
  refine ja_metK (by decide) rfl (Nat.le_of_ble_eq_true rfl) fun K hB hF => ?_
  have count : ∀ (a' : Nat → Bool) (gd : Nat → Int32) (Y : ja_H) (u : Int32), (∀ s, s < n → gd s = nI (a' s).toNat) → (∀ s, s < n → (a' s = true ↔ jcan δ a s)) → jBr Y b (nI n) nx gd ky so en kd fk lk → jfr (jBS b) X Y → ∀ p t, t + p = n * 8 → K 31 [.ref b, .int u, .int (nI (jltr δ a' t)), .int (nI t)] [] Y 0 0 := by
    intro a' gd Y u hg hiff hb hf p
    induction p with
    | zero =>
      intro t ht
      refine kw_iload_n hB B_letters_31 rfl ?_
      refine kw_aload_n hB B_letters_32 rfl ?_
      refine kw_getf hB B_letters_33 f_B_48 hb.1 rfl ?_
      refine kw_bipush hB B_letters_36 (v := nI 8) (by decide) ?_
      refine kn_imul hB B_letters_38 ?_
      refine kn_icmp_ge hB B_letters_39 (by omega) (by omega) (fun hc => ?_) (fun hc => absurd hc (by omega))
      refine kw_iload_n hB B_letters_71 rfl ?_
      refine kw_iret hF rfl B_letters_72 ?_ (by rw [hf.1]; rfl)
      refine ⟨hf, _, gd, rfl, hb, jltr_lt δ a' t, fun c hc => ?_⟩
      rw [jltr_bit δ a' c hc]
      constructor
      · rintro ⟨s, s1, s2, s3⟩
        refine ⟨s / 8, by omega, ?_⟩
        rw [show s / 8 * 8 + c = s by omega]
        exact (hiff _ (hδ _ (by omega))).mp s3
      · rintro ⟨i, i1, i2⟩
        exact ⟨i * 8 + c, by omega, by omega, (hiff _ (hδ _ (by omega))).mpr i2⟩
    | succ p ih =>
      intro t ht
      have hda := hδ t (by omega)
      have hjl := jltr_lt δ a' t
      refine kw_iload_n hB B_letters_31 rfl ?_
      refine kw_aload_n hB B_letters_32 rfl ?_
      refine kw_getf hB B_letters_33 f_B_48 hb.1 rfl ?_
      refine kw_bipush hB B_letters_36 (v := nI 8) (by decide) ?_
      refine kn_imul hB B_letters_38 ?_
      refine kn_icmp_ge hB B_letters_39 (by omega) (by omega) (fun hc => absurd hc (by omega)) (fun hc => ?_)
      refine kw_aload_n hB B_letters_42 rfl ?_
      refine kw_getf hB B_letters_43 f_B_19 hb.1 rfl ?_
      refine kw_aload_n hB B_letters_46 rfl ?_
      refine kw_getf hB B_letters_47 f_B_15 hb.1 rfl ?_
      refine kw_iload_n hB B_letters_50 rfl ?_
      refine kn_iald hB B_letters_51 hb.2.1 rfl (by omega) (by decide) ?_
      rw [hnx t (by omega)]
      refine kn_zald hB B_letters_52 hb.2.2.1 rfl (by omega) (by decide) ?_
      rw [hg _ hda]
      refine kn_if_eq hB B_letters_53 (by cases a' (δ t) <;> decide) (fun hy => ?_) (fun hy => ?_)
      · refine kn_iinc hB B_letters_65 rfl (by decide) rfl ?_
        refine kw_goto hB B_letters_68 ?_
        have := ih (t + 1) (by omega)
        rw [jltr, jb_f hy] at this
        exact this
      · refine kw_iload_n hB B_letters_56 rfl ?_
        refine kw_iconst hB B_letters_57 (v := nI 1) (by decide) ?_
        refine kw_iload_n hB B_letters_58 rfl ?_
        refine kw_bipush hB B_letters_59 (v := nI 8) (by decide) ?_
        refine kn_irem hB B_letters_61 (by omega) (by decide) (by decide) ?_
        have h8 : t % 8 < 8 := Nat.mod_lt _ (by decide)
        have hp2 : 2 ^ (t % 8) < 2 ^ 8 := Nat.pow_lt_pow_right (by decide) h8
        refine kn_ishl hB B_letters_62 (by omega) (by omega) ?_
        refine kn_ior hB B_letters_63 ?_
        rw [Nat.one_mul]
        refine kw_istore_n hB B_letters_64 rfl (by decide) rfl ?_
        refine kn_iinc hB B_letters_65 rfl (by decide) rfl ?_
        refine kw_goto hB B_letters_68 ?_
        have := ih (t + 1) (by omega)
        rw [jltr, jb_t hy] at this
        exact this
  have spread : ∀ p i (mr : Bool) (a' : Nat → Bool) (gd : Nat → Int32) (Y : ja_H) (w : Value), i + p = n → (∀ s, s < n → gd s = nI (a' s).toNat) → (∀ s, s < n → a s = true → a' s = true) → (∀ s, s < n → a' s = true → jcan δ a s) → (mr = true → i ≤ jcnt a' n) → (mr = false → ∀ s c, s < n → c < 8 → a' (δ (s * 8 + c)) = true → a' s = true) → jBr Y b (nI n) nx gd ky so en kd fk lk → jfr (jBS b) X Y → K 4 [.ref b, .int (nI mr.toNat), .int (nI i), w] [] Y 0 0 := by
    intro p
    have done : ∀ (i : Nat) (mr : Bool) (a' : Nat → Bool) (gd : Nat → Int32) (Y : ja_H) (w : Value), (∀ s, s < n → gd s = nI (a' s).toNat) → (∀ s, s < n → a s = true → a' s = true) → (∀ s, s < n → a' s = true → jcan δ a s) → (∀ s c, s < n → c < 8 → a' (δ (s * 8 + c)) = true → a' s = true) → jBr Y b (nI n) nx gd ky so en kd fk lk → jfr (jBS b) X Y → K 27 [.ref b, .int (nI mr.toNat), .int (nI i), w] [] Y 0 0 := by
      intro i mr a' gd Y w hg hup hcan hcl hb hf
      refine kw_iconst hB B_letters_27 (v := nI 0) (by decide) ?_
      refine kw_istore_n hB B_letters_28 rfl (by decide) rfl ?_
      refine kw_iconst hB B_letters_29 (v := nI 0) (by decide) ?_
      refine kw_istore_n hB B_letters_30 rfl (by decide) rfl ?_
      refine count a' gd Y _ hg (fun s hs => ⟨hcan s hs, fun hc => ?_⟩) hb hf (n * 8) 0 (by omega)
      obtain ⟨v, v1, v2⟩ := hc
      refine jcan.cut hδ hcl s hs ⟨v, v1, ?_⟩
      have hrun : ∀ (v : List Nat) (s : Nat), s < n → (∀ c ∈ v, c < 8) → v.foldl (fun q c => δ (q * 8 + c)) s < n := by
        intro v
        induction v with
        | nil => intro s hs _; exact hs
        | cons c v ih => intro s hs hv; exact ih _ (hδ _ (by have := hv c List.mem_cons_self; omega)) (fun x hx => hv x (List.mem_cons_of_mem _ hx))
      exact hup _ (hrun v s hs v1) v2
    induction p with
    | zero =>
      intro i mr a' gd Y w hi hg hup hcan hm1 hm0 hb hf
      refine kw_iload_n hB B_letters_4 rfl ?_
      refine kw_aload_n hB B_letters_5 rfl ?_
      refine kw_getf hB B_letters_6 f_B_48 hb.1 rfl ?_
      refine kn_icmp_ge hB B_letters_9 (by omega) (by omega) (fun hc => ?_) (fun hc => absurd hc (by omega))
      refine done i mr a' gd Y w hg hup hcan (fun s c hs hc8 he => ?_) hb hf
      cases hmr : mr with
      | false => exact hm0 hmr s c hs hc8 he
      | true => exact jcnt_all n (by have := hm1 hmr; omega) s hs
    | succ p ih =>
      intro i mr a' gd Y w hi hg hup hcan hm1 hm0 hb hf
      refine kw_iload_n hB B_letters_4 rfl ?_
      refine kw_aload_n hB B_letters_5 rfl ?_
      refine kw_getf hB B_letters_6 f_B_48 hb.1 rfl ?_
      refine kn_icmp_ge hB B_letters_9 (by omega) (by omega) (fun hc => absurd hc (by omega)) (fun hc => ?_)
      refine kw_iload_n hB B_letters_12 rfl ?_
      refine kn_if_eq hB B_letters_13 (by cases mr <;> decide) (fun hz => ?_) (fun hz => ?_)
      · exact done i mr a' gd Y w hg hup hcan (hm0 (jb_f hz)) hb hf
      · have hmr := jb_t hz
        refine kw_aload_n hB B_letters_16 rfl ?_
        refine kw_callV hB B_letters_17 s_B_97 im_B_spreadGood se_B_spreadGood hb.1 rfl rfl (As := []) (c_B_spreadGood l D g hb hn h1n hnx hδ hg) rfl (by decide) (Nat.le_of_ble_eq_true rfl) (by omega) (by omega) (fun r X1 hq hl => ?_)
        obtain ⟨hf1, mr', a2, gd2, rfl, hb2, hg2, up2, can2, m1, m0⟩ := hq
        refine kw_istore_n hB B_letters_20 rfl (by decide) rfl ?_
        refine kn_iinc hB B_letters_21 rfl (by decide) rfl ?_
        refine kw_goto hB B_letters_24 ?_
        refine ih (i + 1) mr' a2 gd2 X1 w (by omega) hg2 (fun s hs z => up2 s hs (hup s hs z)) (fun s hs z => jcan.trans hδ hcan s hs (can2 s hs z)) (fun z => ?_) m0 hb2 (hf.tr hf1)
        obtain ⟨j, j1, j2, j3⟩ := m1 z
        have := jcnt_lt up2 j1 j2 j3
        have := hm1 hmr
        omega
  refine kw_iconst hB B_letters_0 (v := nI 1) (by decide) ?_
  refine kw_istore_n hB B_letters_1 rfl (by decide) rfl ?_
  refine kw_iconst hB B_letters_2 (v := nI 0) (by decide) ?_
  refine kw_istore_n hB B_letters_3 rfl (by decide) rfl ?_
  exact spread n 0 true a gd X _ (by omega) hgd (fun _ _ z => z) (fun s _ z => jcan.self z) (fun _ => Nat.zero_le _) (fun z => by cases z) h (jfr.rf _ _)
end JB5
