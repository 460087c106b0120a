-- Automaton: write, spreadGood, letters
theorem jBr.fr {X Y : ja_H} {b : Nat} {ct : Int32} {nx gd ky so en kd fk : Nat → Int32} {lk : Nat → Int64} {S : List Nat} (h : jBr X b ct nx gd ky so en kd fk lk) (hf : jfr S X Y) (hS : ∀ k ∈ S, k < b ∨ b + 8 < k) : jBr Y b ct nx gd ky so en kd fk lk := by
  have no : ∀ i, i ≤ 8 → b + i ∉ S := fun i hi z => by have := hS _ z; omega
  obtain ⟨h0, h1, h2, h3, h4, h5, h6, h7, h8⟩ := h
  exact ⟨hf.at (no 0 (by decide)) h0, hf.at (no 1 (by decide)) h1, hf.at (no 2 (by decide)) h2, hf.at (no 3 (by decide)) h3, hf.at (no 4 (by decide)) h4, hf.at (no 5 (by decide)) h5, hf.at (no 6 (by decide)) h6, hf.at (no 7 (by decide)) h7, hf.at (no 8 (by decide)) h8⟩
/-- kind k's first state is rep k -/
def jKr (κ rep : Nat → Nat) (n m : Nat) : Prop := (∀ j, j < n → κ j < m ∧ rep (κ j) ≤ j) ∧ (∀ k, k < m → rep k < n ∧ κ (rep k) = k) ∧ (∀ k k', k < k' → k' < m → rep k < rep k')
theorem jKd.r {sg κ rep : Nat → Nat} {n m : Nat} (h : jKd sg κ rep n m) : jKr κ rep n m := ⟨fun j hj => ⟨(h.1 j hj).1, (h.1 j hj).2.1⟩, h.2.1, fun k k' a c => (h.2.2 k k' a c).1⟩
section JB4
variable (l : Launch) (D : va_G) (g : Nat × Nat) {X : ja_H}
set_option maxHeartbeats 8000000 in
set_option maxRecDepth 100000 in
theorem c_B_write {b q n m : Nat} {n0 g0 : Int32} {f0 : Nat → Int32} {nx gd ky so en kd fk : Nat → Int32} {lk : Nat → Int64} {κ δ rep : Nat → Nat} {acc : Nat → Bool} (h : jBr X b (nI n) nx gd ky so en kd fk lk) (hq : jLr X q n0 g0 f0) (hd : q + 1 < b ∨ b + 8 < q) (hn : n ≤ 1536) (hm : m ≤ 24) (hnx : ∀ s, s < 8 * n → nx s = nI (δ s)) (hδ : ∀ s, s < 8 * n → δ s < n) (hkd : ∀ i, i < n → kd i = nI (κ i)) (hgd : ∀ i, i < n → gd i = nI (acc i).toNat) (hK : jKr κ rep n m) :
    AMet l D g 1 0 0 m_B_write [.ref b, .ref q, .int (nI m)] X (fun r X' => r = none ∧ ∃ (G : Nat) (f' : Nat → Int32), X' = jLs X q (nI m) (nI G) f' ∧ G < 2 ^ m ∧ (∀ k, k < m → G.testBit k = acc (rep k)) ∧ ∀ k a, k < m → a < 8 → f' (k * 8 + a) = nI (κ (δ (rep k * 8 + a)))) := by
  have hlt := hq.lt
  obtain ⟨k1, k2, k3⟩ := hK
  have hb : ∀ f, jBr (jLs X q n0 g0 f) b (nI n) nx gd ky so en kd fk lk := fun f => h.fr (jLs_fr X q n0 g0 f) (by simp; omega)
  refine ja_metK (by decide) rfl (Nat.le_of_ble_eq_true rfl) fun K hB hF => ?_
  have fin : ∀ (i G : Nat) (f : Nat → Int32) (u : Value), G < 2 ^ m → (∀ k, k < m → G.testBit k = acc (rep k)) → (∀ k a, k < m → a < 8 → f (k * 8 + a) = nI (κ (δ (rep k * 8 + a)))) → K 106 [.ref b, .ref q, .int (nI m), .int (nI m), .int (nI G), .int (nI i), u] [] (jLs X q n0 g0 f) 0 0 := by
    intro i G f u hG hG2 hf
    have r1 := jLs_r n0 g0 f hlt
    refine kw_aload_n hB B_write_106 rfl ?_
    refine kw_iload_n hB B_write_107 rfl ?_
    refine kw_iload hB B_write_108 rfl ?_
    refine kw_callV hB B_write_110 s_B_93 im_L_begin se_L_begin r1.1 rfl rfl (As := [.int (nI m), .int (nI G)]) (c_L_begin l D g r1) rfl (by decide) (Nat.le_of_ble_eq_true rfl) (by omega) (by omega) (fun r X1 hq hl => ?_)
    obtain ⟨rfl, rfl⟩ := hq
    rw [jLs_s _ _ _ _ _ _ hlt]
    refine kw_vret hF rfl B_write_113 ?_ (by simp [jLs_len])
    exact ⟨rfl, G, f, rfl, hG, hG2, hf⟩
  have loop : ∀ p i (w G : Nat) (f : Nat → Int32) (u : Value), i + p = n → w ≤ m → (∀ k, k < w → rep k < i) → (w < m → i ≤ rep w) → G < 2 ^ w → (∀ k, k < w → G.testBit k = acc (rep k)) → (∀ k a, k < w → a < 8 → f (k * 8 + a) = nI (κ (δ (rep k * 8 + a)))) → K 8 [.ref b, .ref q, .int (nI m), .int (nI w), .int (nI G), .int (nI i), u] [] (jLs X q n0 g0 f) 0 0 := by
    intro p
    induction p with
    | zero =>
      intro i w G f u hi hw hlo hhi hG hG2 hf
      have hwm : w = m := by
        by_cases z : w < m
        · have := hhi z; have := (k2 w z).1; omega
        · omega
      subst hwm
      refine kw_iload hB B_write_8 rfl ?_
      refine kw_aload_n hB B_write_10 rfl ?_
      refine kw_getf hB B_write_11 f_B_48 (hb f).1 rfl ?_
      refine kn_icmp_ge hB B_write_14 (by omega) (by omega) (fun hc => ?_) (fun hc => absurd hc (by omega))
      exact fin i G f u hG hG2 hf
    | succ p ih =>
      intro i w G f u hi hw hlo hhi hG hG2 hf
      have hBf := hb f
      have hG24 : G < 2 ^ 24 := Nat.lt_of_lt_of_le hG (Nat.pow_le_pow_right (by decide) (by omega))
      refine kw_iload hB B_write_8 rfl ?_
      refine kw_aload_n hB B_write_10 rfl ?_
      refine kw_getf hB B_write_11 f_B_48 hBf.1 rfl ?_
      refine kn_icmp_ge hB B_write_14 (by omega) (by omega) (fun hc => absurd hc (by omega)) (fun hc => ?_)
      refine kw_iload_n hB B_write_17 rfl ?_
      refine kw_iload_n hB B_write_18 rfl ?_
      refine kn_icmp_ge hB B_write_19 (by omega) (by omega) (fun hwm => ?_) (fun hwm => ?_)
      · have e1 : w = m := by omega
        subst e1
        exact fin i G f u hG hG2 hf
      · refine kw_aload_n hB B_write_22 rfl ?_
        refine kw_getf hB B_write_23 f_B_32 hBf.1 rfl ?_
        refine kw_iload hB B_write_26 rfl ?_
        refine kn_iald hB B_write_28 hBf.2.2.2.2.2.2.1 rfl (by omega) (by first | decide | omega) ?_
        refine kw_iload_n hB B_write_29 rfl ?_
        rw [hkd i (by omega)]
        obtain ⟨c1, c2⟩ := k1 i (by omega)
        refine kn_icmp_eq hB B_write_30 (by omega) (by omega) (fun he => ?_) (fun he => ?_)
        · have hir : i = rep w := by have := hhi hwm; rw [he] at c2; omega
          have row : ∀ p a (f2 : Nat → Int32), a + p = 8 → (∀ k a, k < w → a < 8 → f2 (k * 8 + a) = nI (κ (δ (rep k * 8 + a)))) → (∀ a', a' < a → f2 (w * 8 + a') = nI (κ (δ (i * 8 + a')))) → K 39 [.ref b, .ref q, .int (nI m), .int (nI w), .int (nI G), .int (nI i), .int (nI (a + 1))] [] (jLs X q n0 g0 f2) 0 0 := by
            intro p
            induction p with
            | zero =>
              intro a f2 ha hf2 hrow
              have hB2 := hb f2
              refine kw_iload hB B_write_39 rfl ?_
              refine kw_bipush hB B_write_41 (v := nI 8) (by decide) ?_
              refine kn_icmp_gt hB B_write_43 (by omega) (by decide) (fun hc => ?_) (fun hc => absurd hc (by omega))
              refine kw_aload_n hB B_write_79 rfl ?_
              refine kw_getf hB B_write_80 f_B_19 hB2.1 rfl ?_
              refine kw_iload hB B_write_83 rfl ?_
              refine kn_zald hB B_write_85 hB2.2.2.1 rfl (by omega) (by decide) ?_
              rw [hgd i (by omega)]
              have next : ∀ G2, G2 < 2 ^ (w + 1) → (∀ k, k < w + 1 → G2.testBit k = acc (rep k)) → K 97 [.ref b, .ref q, .int (nI m), .int (nI w), .int (nI G2), .int (nI i), .int (nI (a + 1))] [] (jLs X q n0 g0 f2) 0 0 := by
                intro G2 hG2a hG2b
                refine kn_iinc hB B_write_97 rfl (by decide) rfl ?_
                refine kn_iinc hB B_write_100 rfl (by decide) rfl ?_
                refine kw_goto hB B_write_103 ?_
                refine ih (i + 1) (w + 1) G2 f2 _ (by omega) (by omega) (fun k hk => ?_) (fun hk => ?_) hG2a hG2b (fun k a' hk ha' => ?_)
                · by_cases hkw : k = w
                  · rw [hkw]; omega
                  · have := hlo k (by omega); omega
                · have := k3 w (w + 1) (by omega) hk; omega
                · by_cases hkw : k = w
                  · subst hkw; rw [← hir]; exact hrow a' (by omega)
                  · exact hf2 k a' (by omega) ha'
              refine kn_if_eq hB B_write_86 (by cases acc i <;> decide) (fun hz => ?_) (fun hz => ?_)
              · refine next G (Nat.lt_trans hG (Nat.pow_lt_pow_right (by decide) (by omega))) (fun k hk => ?_)
                by_cases hkw : k = w
                · subst hkw; rw [← hir, jb_f hz]; exact jb_one hG (by omega)
                · exact hG2 k (by omega)
              · refine kw_iload hB B_write_89 rfl ?_
                refine kw_iconst hB B_write_91 (v := nI 1) (by decide) ?_
                refine kw_iload_n hB B_write_92 rfl ?_
                have hp2 : 2 ^ w ≤ 2 ^ 24 := Nat.pow_le_pow_right (by decide) (by omega)
                refine kn_ishl hB B_write_93 (by omega) (by omega) ?_
                refine kn_ior hB B_write_94 ?_
                rw [Nat.one_mul]
                refine kw_istore hB B_write_95 (by decide) rfl ?_
                refine next _ (Nat.or_lt_two_pow (Nat.lt_trans hG (Nat.pow_lt_pow_right (by decide) (by omega))) (Nat.pow_lt_pow_right (by decide) (by omega))) (fun k hk => ?_)
                rw [Nat.testBit_or, Nat.testBit_two_pow]
                by_cases hkw : k = w
                · subst hkw; rw [← hir, jb_t hz]; simp
                · rw [hG2 k (by omega)]; simp; intro z; omega
            | succ p ihp =>
              intro a f2 ha hf2 hrow
              have hB2 := hb f2
              have r1 := jLs_r n0 g0 f2 hlt
              have hda := hδ (i * 8 + a) (by omega)
              refine kw_iload hB B_write_39 rfl ?_
              refine kw_bipush hB B_write_41 (v := nI 8) (by decide) ?_
              refine kn_icmp_gt hB B_write_43 (by omega) (by decide) (fun hc => absurd hc (by omega)) (fun hc => ?_)
              refine kw_aload_n hB B_write_46 rfl ?_
              refine kw_iload_n hB B_write_47 rfl ?_
              refine kw_iload hB B_write_48 rfl ?_
              refine kw_aload_n hB B_write_50 rfl ?_
              refine kw_getf hB B_write_51 f_B_32 hB2.1 rfl ?_
              refine kw_aload_n hB B_write_54 rfl ?_
              refine kw_getf hB B_write_55 f_B_15 hB2.1 rfl ?_
              refine kw_iload hB B_write_58 rfl ?_
              refine kw_bipush hB B_write_60 (v := nI 8) (by decide) ?_
              refine kn_imul hB B_write_62 ?_
              refine kw_iload hB B_write_63 rfl ?_
              refine kn_iadd hB B_write_65 ?_
              refine kw_iconst hB B_write_66 (v := nI 1) (by decide) ?_
              refine kn_isub hB B_write_67 (by omega) ?_
              rw [show i * 8 + (a + 1) - 1 = i * 8 + a by omega]
              refine kn_iald hB B_write_68 hB2.2.1 rfl (by omega) (by decide) ?_
              rw [hnx _ (by omega)]
              refine kn_iald hB B_write_69 hB2.2.2.2.2.2.2.1 rfl (by omega) (by decide) ?_
              rw [hkd _ hda]
              refine kw_callV hB B_write_70 s_B_89 im_L_lead se_L_lead r1.1 rfl rfl (As := [.int (nI w), .int (nI (a + 1)), .int (nI (κ (δ (i * 8 + a))))]) (c_L_lead l D g r1 (by omega) (by omega)) rfl (by decide) (Nat.le_of_ble_eq_true rfl) (by omega) (by omega) (fun r X1 hq hl => ?_)
              obtain ⟨rfl, rfl⟩ := hq
              rw [jLs_s _ _ _ _ _ _ hlt, show w * 8 + (a + 1) - 1 = w * 8 + a by omega]
              refine kn_iinc hB B_write_73 rfl (by decide) rfl ?_
              refine kw_goto hB B_write_76 ?_
              refine ihp (a + 1) _ (by omega) (fun k a' hk ha' => ?_) (fun a' ha' => ?_)
              · rw [pk_un (by omega)]; exact hf2 k a' hk ha'
              · by_cases haa : a' = a
                · subst haa; rw [pk_us]
                · rw [pk_un (by omega)]; exact hrow a' (by omega)
          refine kw_iconst hB B_write_36 (v := nI 1) (by decide) ?_
          refine kw_istore hB B_write_37 (by decide) rfl ?_
          exact row 8 0 f (by omega) hf (fun a' ha' => absurd ha' (by omega))
        · refine kw_goto hB B_write_33 ?_
          refine kn_iinc hB B_write_100 rfl (by decide) rfl ?_
          refine kw_goto hB B_write_103 ?_
          refine ih (i + 1) w G f _ (by omega) hw (fun k hk => ?_) (fun hk => ?_) hG hG2 hf
          · have := hlo k hk; omega
          · have h1 := hhi hk
            have h2 : i ≠ rep w := fun z => he (by rw [z]; exact (k2 w hk).2)
            omega
  refine kw_iconst hB B_write_0 (v := nI 0) (by decide) ?_
  refine kw_istore_n hB B_write_1 rfl (by decide) rfl ?_
  refine kw_iconst hB B_write_2 (v := nI 0) (by decide) ?_
  refine kw_istore hB B_write_3 (by decide) rfl ?_
  refine kw_iconst hB B_write_5 (v := nI 0) (by decide) ?_
  refine kw_istore hB B_write_6 (by decide) rfl ?_
  have := loop n 0 0 0 f0 (.retAddr 0) (by omega) (by omega) (fun k hk => absurd hk (by omega)) (fun _ => by omega) (by decide) (fun k hk => absurd hk (by omega)) (fun k a hk => absurd hk (by omega))
  rw [jLs_id hq] at this
  exact this
/-- ways lead from i, by letters, to a state for which a holds -/
def jcan (δ : Nat → Nat) (a : Nat → Bool) (i : Nat) : Prop := ∃ w : List Nat, (∀ c ∈ w, c < 8) ∧ a (w.foldl (fun q c => δ (q * 8 + c)) i) = true
theorem jcan.step {δ : Nat → Nat} {a : Nat → Bool} {i c : Nat} (hc : c < 8) (h : jcan δ a (δ (i * 8 + c))) : jcan δ a i := by
  obtain ⟨w, h1, h2⟩ := h
  exact ⟨c :: w, fun x hx => by rcases List.mem_cons.mp hx with rfl | z; exact hc; exact h1 x z, h2⟩
theorem jcan.self {δ : Nat → Nat} {a : Nat → Bool} {i : Nat} (h : a i = true) : jcan δ a i := ⟨[], fun _ z => (by cases z), h⟩
theorem jcan.cut {δ : Nat → Nat} {a : Nat → Bool} {n : Nat} (hδ : ∀ s, s < 8 * n → δ s < n) (hc : ∀ i c, i < n → c < 8 → a (δ (i * 8 + c)) = true → a i = true) : ∀ i, i < n → jcan δ a i → a i = true := by
  rintro i hi ⟨w, h1, h2⟩
  induction w generalizing i with
  | nil => exact h2
  | cons c w ih =>
    have hc8 := h1 c List.mem_cons_self
    exact hc i c hi hc8 (ih (δ (i * 8 + c)) (hδ _ (by omega)) (fun x hx => h1 x (List.mem_cons_of_mem _ hx)) h2)
def jcnt (a : Nat → Bool) : Nat → Nat
  | 0 => 0
  | n + 1 => jcnt a n + (a n).toNat
theorem jcnt_le (a : Nat → Bool) : ∀ n, jcnt a n ≤ n
  | 0 => Nat.le_refl _
  | n + 1 => by have := jcnt_le a n; rw [jcnt]; cases a n <;> simp <;> omega
theorem jcnt_mono {a a' : Nat → Bool} {n : Nat} (h : ∀ i, i < n → a i = true → a' i = true) : jcnt a n ≤ jcnt a' n := by
  induction n with
  | zero => exact Nat.le_refl _
  | succ n ih =>
    have h1 := ih (fun i hi => h i (by omega))
    rw [jcnt, jcnt]
    cases hb : a n with
    | false => simp; omega
    | true => rw [h n (by omega) hb]; omega
theorem jcnt_lt {a a' : Nat → Bool} {n : Nat} (h : ∀ i, i < n → a i = true → a' i = true) {j : Nat} (hj : j < n) (h1 : a j = false) (h2 : a' j = true) : jcnt a n < jcnt a' n := by
  induction n with
  | zero => omega
  | succ n ih =>
    rw [jcnt, jcnt]
    by_cases hjn : j = n
    · subst hjn
      have := jcnt_mono (n := j) (fun i hi => h i (by omega))
      rw [h1, h2]; simp; omega
    · have := ih (fun i hi => h i (by omega)) (by omega)
      cases hb : a n with
      | false => simp; omega
      | true => rw [h n (by omega) hb]; omega
theorem jcnt_all {a : Nat → Bool} : ∀ n, n ≤ jcnt a n → ∀ i, i < n → a i = true := by
  intro n
  induction n with
  | zero => intro _ i hi; omega
  | succ n ih =>
    intro h i hi
    have hl := jcnt_le a n
    rw [jcnt] at h
    cases hb : a n with
    | false => rw [hb] at h; simp at h; omega
    | true =>
      by_cases hin : i = n
      · rw [hin]; exact hb
      · rw [hb] at h; simp at h; exact ih h i (by omega)
end JB4
