-- Automaton: leastWord
/-- the letters (from 0) on the way by which q was reached, by entries e -/
def jpw (e : Nat → Nat) : Nat → Nat → List Nat
  | 0, _ => []
  | f + 1, q => if q = 0 then [] else jpw e f (e q / 8) ++ [e q % 8]
theorem jpw_fuel {e : Nat → Nat} {n : Nat} (he : ∀ j, 1 ≤ j → j < n → e j < 8 * j) : ∀ f f' q, q < n → q ≤ f → q ≤ f' → jpw e f q = jpw e f' q := by
  intro f
  induction f with
  | zero =>
    intro f' q hq h1 h2
    have : q = 0 := by omega
    subst this
    cases f' <;> simp [jpw]
  | succ f ih =>
    intro f' q hq h1 h2
    by_cases h0 : q = 0
    · subst h0; cases f' <;> simp [jpw]
    · cases f' with
      | zero => omega
      | succ f' =>
        rw [jpw, jpw, if_neg h0, if_neg h0]
        have := he q (by omega) hq
        rw [ih f' (e q / 8) (by omega) (by omega) (by omega)]
theorem jpw_s {e : Nat → Nat} {n : Nat} (he : ∀ j, 1 ≤ j → j < n → e j < 8 * j) {q : Nat} (hq : q < n) (h0 : q ≠ 0) : jpw e q q = jpw e (e q / 8) (e q / 8) ++ [e q % 8] := by
  have h1 := he q (by omega) hq
  obtain ⟨p, rfl⟩ : ∃ p, q = p + 1 := ⟨q - 1, by omega⟩
  rw [jpw, if_neg h0, jpw_fuel he p (e (p + 1) / 8) (e (p + 1) / 8) (by omega) (by omega) (by omega)]
theorem jpw_len {e : Nat → Nat} {n : Nat} (he : ∀ j, 1 ≤ j → j < n → e j < 8 * j) : ∀ q, q < n → (jpw e q q).length ≤ q := by
  intro q
  induction q using Nat.strongRecOn with
  | ind q ih =>
    intro hq
    by_cases h0 : q = 0
    · subst h0; simp [jpw]
    · rw [jpw_s he hq h0]
      have h1 := he q (by omega) hq
      have := ih (e q / 8) (by omega) (by omega)
      simp
      omega
section JB7
variable (l : Launch) (D : va_G) (g : Nat × Nat) {X : ja_H}
set_option maxHeartbeats 8000000 in
set_option maxRecDepth 100000 in
theorem c_B_leastWord {b n ρ : Nat} {nx gd ky so en kd fk row : Nat → Int32} {lk : Nat → Int64} {e : Nat → Nat} {a : Nat → Bool} (h : jBr X b (nI n) nx gd ky so en kd fk lk) (hρ : X[ρ]? = some (.inl (0, 96, .inl row))) (hd : ρ < b ∨ b + 8 < ρ) (hn : n ≤ 96) (h1n : 1 ≤ n) (hgd : ∀ i, i < n → gd i = nI (a i).toNat) (hen : ∀ j, 1 ≤ j → j < n → en j = nI (e j)) (he : ∀ j, 1 ≤ j → j < n → e j < 8 * j) :
    AMet l D g 0 0 0 m_B_leastWord [.ref b, .ref ρ] X (fun r X' => ((∀ i, i < n → a i = false) ∧ r = some (.int (-1)) ∧ X' = X) ∨ (∃ (q : Nat) (row' : Nat → Int32), q < n ∧ a q = true ∧ (∀ i, i < q → a i = false) ∧ r = some (.int (nI (jpw e q q).length)) ∧ X' = X.set ρ (.inl (0, 96, .inl row')) ∧ ∀ i c, (jpw e q q)[i]? = some c → row' i = nI (c + 1))) := by
  have hρl := (List.getElem?_eq_some_iff.mp hρ).1
  refine ja_metK (by decide) rfl (Nat.le_of_ble_eq_true rfl) fun K hB hF => ?_
  have search : ∀ p i (u v w : Value), i + p = n → (∀ s, s < i → a s = false) → K 2 [.ref b, .ref ρ, .int (nI i), u, v, w] [] X 0 0 := by
    intro p
    induction p with
    | zero =>
      intro i u v w hi hno
      refine kw_iload_n hB B_leastWord_2 rfl ?_
      refine kw_aload_n hB B_leastWord_3 rfl ?_
      refine kw_getf hB B_leastWord_4 f_B_48 h.1 rfl ?_
      refine kn_icmp_ge hB B_leastWord_7 (by omega) (by omega) (fun hc => ?_) (fun hc => absurd hc (by omega))
      refine kw_iload_n hB B_leastWord_25 rfl ?_
      refine kw_aload_n hB B_leastWord_26 rfl ?_
      refine kw_getf hB B_leastWord_27 f_B_48 h.1 rfl ?_
      refine kn_icmp_ne hB B_leastWord_30 (by omega) (by omega) (fun hc => absurd (by omega) hc) (fun hc => ?_)
      refine kw_iconst hB B_leastWord_33 (v := -1) (by decide) ?_
      refine kw_iret hF rfl B_leastWord_34 ?_ (by first | (simp [jLs_len]; done) | (simp [*]; done))
      exact Or.inl ⟨fun s hs => hno s (by omega), rfl, rfl⟩
    | succ p ih =>
      intro i u v w hi hno
      refine kw_iload_n hB B_leastWord_2 rfl ?_
      refine kw_aload_n hB B_leastWord_3 rfl ?_
      refine kw_getf hB B_leastWord_4 f_B_48 h.1 rfl ?_
      refine kn_icmp_ge hB B_leastWord_7 (by omega) (by omega) (fun hc => absurd hc (by omega)) (fun hc => ?_)
      refine kw_aload_n hB B_leastWord_10 rfl ?_
      refine kw_getf hB B_leastWord_11 f_B_19 h.1 rfl ?_
      refine kw_iload_n hB B_leastWord_14 rfl ?_
      refine kn_zald hB B_leastWord_15 h.2.2.1 rfl (by omega) (by decide) ?_
      rw [hgd i (by omega)]
      refine kn_if_ne hB B_leastWord_16 (by cases a i <;> decide) (fun hz => ?_) (fun hz => ?_)
      rotate_left
      · refine kn_iinc hB B_leastWord_19 rfl (by decide) rfl ?_
        refine kw_goto hB B_leastWord_22 ?_
        refine ih (i + 1) u v w (by omega) (fun s hs => ?_)
        by_cases hsi : s = i
        · subst hsi; exact jb_f hz
        · exact hno s (by omega)
      · have hai := jb_t hz
        have hin : i < n := by omega
        have hlen := jpw_len he i hin
        refine kw_iload_n hB B_leastWord_25 rfl ?_
        refine kw_aload_n hB B_leastWord_26 rfl ?_
        refine kw_getf hB B_leastWord_27 f_B_48 h.1 rfl ?_
        refine kn_icmp_ne hB B_leastWord_30 (by omega) (by omega) (fun _ => ?_) (fun hc => absurd hc (by omega))
        -- the letters, from the last on
        have write : ∀ k q (row2 : Nat → Int32) (x : Int32), q < n → (jpw e q q).length = k → (jpw e q q).length ≤ (jpw e i i).length → (∀ j c, j < k → (jpw e q q)[j]? = some c → (jpw e i i)[j]? = some c) → (∀ j c, k ≤ j → (jpw e i i)[j]? = some c → row2 j = nI (c + 1)) → (1 ≤ k → x = nI (k - 1)) → (k = 0 → x = -1) → K 77 [.ref b, .ref ρ, .int (nI i), .int (nI (jpw e i i).length), .int (nI q), .int x] [] (X.set ρ (.inl (0, 96, .inl row2))) 0 0 := by
          intro k
          induction k with
          | zero =>
            intro q row2 x hqn hql hle hpre hrow hx1 hx0
            rw [hx0 rfl]
            refine kw_iload hB B_leastWord_77 rfl ?_
            refine kw_if_lt hB B_leastWord_79 (fun _ => ?_) (fun hc => absurd (by decide) hc)
            refine kw_iload_n hB B_leastWord_116 rfl ?_
            refine kw_iret hF rfl B_leastWord_117 ?_ (by simp)
            exact Or.inr ⟨i, row2, hin, hai, hno, rfl, rfl, fun j c hj => hrow j c (by omega) hj⟩
          | succ k ihk =>
            intro q row2 x hqn hql hle hpre hrow hx1 hx0
            have hq0 : q ≠ 0 := fun z => by subst z; simp [jpw] at hql
            have hps := jpw_s he hqn hq0
            have heq := he q (by omega) hqn
            have hb2 : jBr (X.set ρ (.inl (0, 96, .inl row2))) b (nI n) nx gd ky so en kd fk lk := h.fr (jset_fr X ρ _) (by simp; omega)
            have hlk : (jpw e (e q / 8) (e q / 8)).length = k := by rw [hps] at hql; simp at hql; exact hql
            rw [hx1 (by omega), show k + 1 - 1 = k by omega]
            refine kw_iload hB B_leastWord_77 rfl ?_
            refine kw_if_lt hB B_leastWord_79 (fun hc => absurd hc (nI_pos (by omega))) (fun _ => ?_)
            refine kw_aload_n hB B_leastWord_82 rfl ?_
            refine kw_iload hB B_leastWord_83 rfl ?_
            refine kw_aload_n hB B_leastWord_85 rfl ?_
            refine kw_getf hB B_leastWord_86 f_B_29 hb2.1 rfl ?_
            refine kw_iload hB B_leastWord_89 rfl ?_
            refine kn_iald hB B_leastWord_91 hb2.2.2.2.2.2.1 rfl (by omega) (by first | decide | omega) ?_
            rw [hen q (by omega) hqn]
            refine kw_bipush hB B_leastWord_92 (v := nI 8) (by decide) ?_
            refine kn_irem hB B_leastWord_94 (by omega) (by decide) (by decide) ?_
            refine kw_iconst hB B_leastWord_95 (v := nI 1) (by decide) ?_
            refine kn_iadd hB B_leastWord_96 ?_
            refine kn_iast hB B_leastWord_97 (List.getElem?_set_self hρl) rfl (by omega) (by decide) ?_
            rw [List.set_set]
            have hb3 : jBr (X.set ρ (.inl (0, 96, .inl (upd row2 k (nI (e q % 8 + 1)))))) b (nI n) nx gd ky so en kd fk lk := h.fr (jset_fr X ρ _) (by simp; omega)
            refine kw_aload_n hB B_leastWord_98 rfl ?_
            refine kw_getf hB B_leastWord_99 f_B_29 hb3.1 rfl ?_
            refine kw_iload hB B_leastWord_102 rfl ?_
            refine kn_iald hB B_leastWord_104 hb3.2.2.2.2.2.1 rfl (by omega) (by first | decide | omega) ?_
            rw [hen q (by omega) hqn]
            refine kw_bipush hB B_leastWord_105 (v := nI 8) (by decide) ?_
            refine kn_idiv hB B_leastWord_107 (by omega) (by decide) (by decide) ?_
            refine kw_istore hB B_leastWord_108 (by decide) rfl ?_
            have next : ∀ y : Int32, (1 ≤ k → y = nI (k - 1)) → (k = 0 → y = -1) → K 77 [.ref b, .ref ρ, .int (nI i), .int (nI (jpw e i i).length), .int (nI (e q / 8)), .int y] [] (X.set ρ (.inl (0, 96, .inl (upd row2 k (nI (e q % 8 + 1)))))) 0 0 := by
              intro y hy1 hy0
              refine ihk (e q / 8) _ y (by omega) hlk (by omega) (fun j c hj hjc => ?_) (fun j c hj hjc => ?_) hy1 hy0
              · refine hpre j c (by omega) ?_
                rw [hps, List.getElem?_append_left (by omega)]
                exact hjc
              · by_cases hjk : j = k
                · subst hjk
                  rw [pk_us]
                  have := hpre j (e q % 8) (by omega) (by rw [hps, List.getElem?_append_right (by omega), hlk]; simp)
                  rw [hjc] at this
                  cases this
                  rfl
                · rw [pk_un hjk]; exact hrow j c (by omega) hjc
            by_cases hk0 : k = 0
            · subst hk0
              refine kw_iinc hB B_leastWord_110 rfl (v := -1) (by decide) (by decide) rfl ?_
              refine kw_goto hB B_leastWord_113 ?_
              exact next (-1) (fun z => by omega) (fun _ => rfl)
            · refine kw_iinc hB B_leastWord_110 rfl (v := nI (k - 1)) (by
                have := pk_m1 (k - 1)
                rw [show k - 1 + 1 = k by omega] at this
                exact this) (by decide) rfl ?_
              refine kw_goto hB B_leastWord_113 ?_
              exact next (nI (k - 1)) (fun _ => rfl) (fun z => absurd z hk0)
        have startw : ∀ w1 w2 : Value, K 69 [.ref b, .ref ρ, .int (nI i), .int (nI (jpw e i i).length), w1, w2] [] X 0 0 → True := fun _ _ _ => trivial
        have measure : ∀ k q (w : Value), q < n → (jpw e q q).length = k → k ≤ (jpw e i i).length → K 40 [.ref b, .ref ρ, .int (nI i), .int (nI ((jpw e i i).length - k)), .int (nI q), w] [] X 0 0 := by
          intro k
          induction k with
          | zero =>
            intro q w hqn hql hle
            have hq0 : q = 0 := Classical.byContradiction fun z => by rw [jpw_s he hqn z] at hql; simp at hql
            subst hq0
            refine kw_iload hB B_leastWord_40 rfl ?_
            refine kn_if_eq hB B_leastWord_42 (by decide) (fun _ => ?_) (fun hc => absurd rfl hc)
            rw [Nat.sub_zero]
            by_cases hL : (jpw e i i).length = 0
            · refine kw_iload_n hB B_leastWord_69 rfl ?_
              refine kw_istore hB B_leastWord_70 (by decide) rfl ?_
              refine kw_iload_n hB B_leastWord_72 rfl ?_
              refine kw_iconst hB B_leastWord_73 (v := nI 1) (by decide) ?_
              refine kw_isub hB B_leastWord_74 ?_
              rw [show nI (jpw e i i).length - nI 1 = -1 by rw [hL]; decide]
              refine kw_istore hB B_leastWord_75 (by decide) rfl ?_
              have := write 0 i row (-1) hin hL (Nat.le_refl _) (fun j c hj => absurd hj (by omega)) (fun j c hj hjc => ?_) (fun z => by omega) (fun _ => rfl)
              · rw [ja_set_self hρ] at this
                exact this
              · have := (List.getElem?_eq_some_iff.mp hjc).1; omega
            · refine kw_iload_n hB B_leastWord_69 rfl ?_
              refine kw_istore hB B_leastWord_70 (by decide) rfl ?_
              refine kw_iload_n hB B_leastWord_72 rfl ?_
              refine kw_iconst hB B_leastWord_73 (v := nI 1) (by decide) ?_
              refine kn_isub hB B_leastWord_74 (by omega) ?_
              refine kw_istore hB B_leastWord_75 (by decide) rfl ?_
              have := write (jpw e i i).length i row (nI ((jpw e i i).length - 1)) hin rfl (Nat.le_refl _) (fun j c _ hjc => hjc) (fun j c hj hjc => ?_) (fun _ => rfl) (fun z => absurd z hL)
              · rw [ja_set_self hρ] at this
                exact this
              · have := (List.getElem?_eq_some_iff.mp hjc).1; omega
          | succ k ihk =>
            intro q w hqn hql hle
            have hq0 : q ≠ 0 := fun z => by subst z; simp [jpw] at hql
            have hps := jpw_s he hqn hq0
            have heq := he q (by omega) hqn
            have hlk : (jpw e (e q / 8) (e q / 8)).length = k := by rw [hps] at hql; simp at hql; exact hql
            refine kw_iload hB B_leastWord_40 rfl ?_
            refine kn_if_eq hB B_leastWord_42 (by omega) (fun hc => absurd hc hq0) (fun _ => ?_)
            refine kw_iload_n hB B_leastWord_45 rfl ?_
            refine kw_aload_n hB B_leastWord_46 rfl ?_
            refine kw_alen hB B_leastWord_47 hρ rfl (v := nI 96) rfl ?_
            refine kn_icmp_ge hB B_leastWord_48 (by omega) (by decide) (fun hc => absurd hc (by omega)) (fun _ => ?_)
            refine kn_iinc hB B_leastWord_51 rfl (by decide) rfl ?_
            refine kw_aload_n hB B_leastWord_54 rfl ?_
            refine kw_getf hB B_leastWord_55 f_B_29 h.1 rfl ?_
            refine kw_iload hB B_leastWord_58 rfl ?_
            refine kn_iald hB B_leastWord_60 h.2.2.2.2.2.1 rfl (by omega) (by first | decide | omega) ?_
            rw [hen q (by omega) hqn]
            refine kw_bipush hB B_leastWord_61 (v := nI 8) (by decide) ?_
            refine kn_idiv hB B_leastWord_63 (by omega) (by decide) (by decide) ?_
            refine kw_istore hB B_leastWord_64 (by decide) rfl ?_
            refine kw_goto hB B_leastWord_66 ?_
            have := ihk (e q / 8) w (by omega) hlk (by omega)
            rw [show (jpw e i i).length - k = (jpw e i i).length - (k + 1) + 1 by omega] at this
            exact this
        refine kw_iconst hB B_leastWord_35 (v := nI 0) (by decide) ?_
        refine kw_istore_n hB B_leastWord_36 rfl (by decide) rfl ?_
        refine kw_iload_n hB B_leastWord_37 rfl ?_
        refine kw_istore hB B_leastWord_38 (by decide) rfl ?_
        have := measure (jpw e i i).length i w hin rfl (Nat.le_refl _)
        rw [Nat.sub_self] at this
        exact this
  refine kw_iconst hB B_leastWord_0 (v := nI 0) (by decide) ?_
  refine kw_istore_n hB B_leastWord_1 rfl (by decide) rfl ?_
  exact search n 0 _ _ _ (by omega) (fun s hs => absurd hs (by omega))
end JB7
