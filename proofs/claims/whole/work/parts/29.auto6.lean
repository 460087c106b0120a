-- Automaton: reduce
def jgo (δ : Nat → Nat) (i : Nat) (w : List Nat) : Nat := w.foldl (fun q c => δ (q * 8 + c)) i
def jok (w : List Nat) : Prop := ∀ c ∈ w, c < 8
/-- the same words lead from i and from j to good states -/
def jeqv (δ : Nat → Nat) (a : Nat → Bool) (i j : Nat) : Prop := ∀ w, jok w → a (jgo δ i w) = a (jgo δ j w)
theorem jeqv.step {δ : Nat → Nat} {a : Nat → Bool} {i j c : Nat} (h : jeqv δ a i j) (hc : c < 8) : jeqv δ a (δ (i * 8 + c)) (δ (j * 8 + c)) := fun w hw => h (c :: w) (fun x hx => by
  rcases List.mem_cons.mp hx with rfl | z
  · exact hc
  · exact hw x z)
theorem jgo_lt {δ : Nat → Nat} {n : Nat} (hδ : ∀ s, s < 8 * n → δ s < n) : ∀ (w : List Nat) (i : Nat), i < n → jok w → jgo δ i w < n := by
  intro w
  induction w with
  | nil => intro i hi _; exact hi
  | cons c w ih =>
    intro i hi hw
    exact ih (δ (i * 8 + c)) (hδ _ (by have := hw c List.mem_cons_self; omega)) (fun x hx => hw x (List.mem_cons_of_mem _ hx))
theorem jsg_inj {κ δ : Nat → Nat} {n i j : Nat} (hκ : ∀ s, s < n → κ s < 32) (hi : i < n) (hj : j < n) (hδ : ∀ s, s < 8 * n → δ s < n) : ∀ m, m ≤ 8 → jsg κ δ i m = jsg κ δ j m → κ i = κ j ∧ ∀ c, c < m → κ (δ (i * 8 + c)) = κ (δ (j * 8 + c)) := by
  intro m
  induction m with
  | zero => intro _ h; exact ⟨h, fun c hc => absurd hc (by omega)⟩
  | succ m ih =>
    intro hm h
    rw [jsg, jsg] at h
    have h1 := hκ _ (hδ (i * 8 + m) (by omega))
    have h2 := hκ _ (hδ (j * 8 + m) (by omega))
    obtain ⟨a, b⟩ := ih (by omega) (by omega)
    refine ⟨a, fun c hc => ?_⟩
    by_cases hcm : c = m
    · subst hcm; omega
    · exact b c (by omega)
theorem jKd.eq {sg κ rep : Nat → Nat} {n m i j : Nat} (h : jKd sg κ rep n m) (hi : i < n) (hj : j < n) : κ i = κ j ↔ sg i = sg j := by
  obtain ⟨h1, h2, h3⟩ := h
  obtain ⟨a1, a2, a3⟩ := h1 i hi
  obtain ⟨b1, b2, b3⟩ := h1 j hj
  constructor
  · intro e; rw [a3, b3, e]
  · intro e
    rcases Nat.lt_trichotomy (κ i) (κ j) with z | z | z
    · exact absurd (by rw [← a3, ← b3]; exact e) (h3 _ _ z b1).2
    · exact z
    · exact absurd (by rw [← a3, ← b3]; exact e.symm) (h3 _ _ z a1).2
/-- at least m kinds -/
def jmany (κ : Nat → Nat) (n m : Nat) : Prop := ∃ r : Nat → Nat, (∀ k, k < m → r k < n) ∧ ∀ k k', k < m → k' < m → κ (r k) = κ (r k') → k = k'
theorem jmany.le {κ κ' : Nat → Nat} {n m m' : Nat} (h : jmany κ n m) (hr : ∀ i j, i < n → j < n → κ' i = κ' j → κ i = κ j) (hlt : ∀ i, i < n → κ' i < m') : m ≤ m' := by
  obtain ⟨r, r1, r2⟩ := h
  exact jpig m' (fun k => κ' (r k)) m (fun k hk => hlt _ (r1 k hk)) (fun k k' hk hk' e => r2 k k' hk hk' (hr _ _ (r1 k hk) (r1 k' hk') e))
theorem jmany.same {κ κ' : Nat → Nat} {n m : Nat} (h : jmany κ n m) (hr : ∀ i j, i < n → j < n → κ' i = κ' j → κ i = κ j) (hlt : ∀ i, i < n → κ' i < m) : ∀ i j, i < n → j < n → κ i = κ j → κ' i = κ' j := by
  intro i j hi hj he
  refine Classical.byContradiction fun hne => ?_
  obtain ⟨r, r1, r2⟩ := h
  by_cases hex : ∃ k0, k0 < m ∧ κ (r k0) = κ i
  · obtain ⟨k0, hk0, hke⟩ := hex
    have := jpig m (fun k => if k = k0 then κ' i else if k = m then κ' j else κ' (r k)) (m + 1) (fun k hk => ?_) (fun k k' hk hk' e => ?_)
    · omega
    · show (if k = k0 then κ' i else if k = m then κ' j else κ' (r k)) < m
      split
      · exact hlt i hi
      · split
        · exact hlt j hj
        · exact hlt _ (r1 k (by omega))
    · have e : (if k = k0 then κ' i else if k = m then κ' j else κ' (r k)) = (if k' = k0 then κ' i else if k' = m then κ' j else κ' (r k')) := e
      have key : ∀ k, k < m → k ≠ k0 → κ' (r k) ≠ κ' i ∧ κ' (r k) ≠ κ' j := fun k hk hkk => ⟨fun z => hkk (r2 k k0 hk hk0 ((hr _ _ (r1 k hk) hi z).trans hke.symm)), fun z => hkk (r2 k k0 hk hk0 ((hr _ _ (r1 k hk) hj z).trans (he.symm.trans hke.symm)))⟩
      by_cases a1 : k = k0 <;> by_cases a2 : k' = k0
      · omega
      · rw [if_pos a1, if_neg a2] at e
        by_cases a3 : k' = m
        · rw [if_pos a3] at e; exact absurd e hne
        · rw [if_neg a3] at e; exact absurd e.symm (key k' (by omega) a2).1
      · rw [if_neg a1, if_pos a2] at e
        by_cases a3 : k = m
        · rw [if_pos a3] at e; exact absurd e.symm hne
        · rw [if_neg a3] at e; exact absurd e (key k (by omega) a1).1
      · rw [if_neg a1, if_neg a2] at e
        by_cases a3 : k = m <;> by_cases a4 : k' = m
        · omega
        · rw [if_pos a3, if_neg a4] at e; exact absurd e.symm (key k' (by omega) a2).2
        · rw [if_neg a3, if_pos a4] at e; exact absurd e (key k (by omega) a1).2
        · rw [if_neg a3, if_neg a4] at e
          exact r2 k k' (by omega) (by omega) (hr _ _ (r1 k (by omega)) (r1 k' (by omega)) e)
  · have := jpig m (fun k => if k = m then κ' i else κ' (r k)) (m + 1) (fun k hk => ?_) (fun k k' hk hk' e => ?_)
    · omega
    · show (if k = m then κ' i else κ' (r k)) < m
      split
      · exact hlt i hi
      · exact hlt _ (r1 k (by omega))
    · have e : (if k = m then κ' i else κ' (r k)) = (if k' = m then κ' i else κ' (r k')) := e
      by_cases a3 : k = m <;> by_cases a4 : k' = m
      · omega
      · rw [if_pos a3, if_neg a4] at e
        exact absurd ⟨k', by omega, hr _ _ (r1 k' (by omega)) hi e.symm⟩ hex
      · rw [if_neg a3, if_pos a4] at e
        exact absurd ⟨k, by omega, hr _ _ (r1 k (by omega)) hi e⟩ hex
      · rw [if_neg a3, if_neg a4] at e
        exact r2 k k' (by omega) (by omega) (hr _ _ (r1 k (by omega)) (r1 k' (by omega)) e)
/-- an automaton between explorations -/
def jBx (X : ja_H) (b : Nat) : Prop := ∃ ct nx gd ky so en kd fk lk, jBr X b ct nx gd ky so en kd fk lk ∧ ∀ k, k < 1536 → so k = -1
/-- the least automaton of n states with ways δ and good states a: m kinds of states, kind k's first is rep k; it lies in the language f, G -/
def jmin (δ : Nat → Nat) (a : Nat → Bool) (n m : Nat) (κ rep : Nat → Nat) (G : Nat) (f : Nat → Int32) : Prop := m ≤ 24 ∧ jKr κ rep n m ∧ (∀ i j, i < n → j < n → (κ i = κ j ↔ jeqv δ a i j)) ∧ G < 2 ^ m ∧ (∀ k, k < m → G.testBit k = a (rep k)) ∧ ∀ k c, k < m → c < 8 → f (k * 8 + c) = nI (κ (δ (rep k * 8 + c)))
section JB6
variable (l : Launch) (D : va_G) (g : Nat × Nat) {X : ja_H}
set_option maxHeartbeats 8000000 in
set_option maxRecDepth 100000 in
theorem c_B_reduce {b q n : Nat} {n0 g0 : Int32} {f0 : Nat → Int32} {nx gd ky so en kd fk : Nat → Int32} {lk : Nat → Int64} {δ : Nat → Nat} {a : Nat → Bool} (h : jBr X b (nI n) nx gd ky so en kd fk lk) (hso : ∀ k, k < 1536 → so k = -1) (hq : jLr X q n0 g0 f0) (hd : q + 1 < b ∨ b + 8 < q) (hn : n ≤ 1536) (h1n : 1 ≤ n) (hnx : ∀ s, s < 8 * n → nx s = nI (δ s)) (hδ : ∀ s, s < 8 * n → δ s < n) (hgd : ∀ i, i < n → gd i = nI (a i).toNat) :
    AMet l D g 2 0 0 m_B_reduce [.ref b, .ref q] X (fun r X' => r = none ∧ jBx X' b ∧ jfr (q :: (q + 1) :: jBS b) X X' ∧ ((∃ (m : Nat) (κ rep : Nat → Nat) (G : Nat) (f' : Nat → Int32), jmin δ a n m κ rep G f' ∧ jLr X' q (nI m) (nI G) f') ∨ (∃ (S : Nat) (r : Nat → Nat), S < 256 ∧ (∀ c, c < 8 → (S.testBit c = true ↔ ∃ i, i < n ∧ jcan δ a (δ (i * 8 + c)))) ∧ jLr X' q (nI (if S = 255 then 1 else 2)) (nI 1) (jallk S f0 8) ∧ (∀ k, k < 25 → r k < n) ∧ ∀ k k', k < k' → k' < 25 → ¬ jeqv δ a (r k) (r k')))) := by
  have hlt := hq.lt
  refine ja_metK (by decide) rfl (Nat.le_of_ble_eq_true rfl) fun K hB hF => ?_
  have sub : ∀ k, k ∈ jBS b → k ∈ q :: (q + 1) :: jBS b := fun k hk => List.mem_cons_of_mem _ (List.mem_cons_of_mem _ hk)
  have off : ∀ k ∈ jBS b, k ≠ q ∧ k ≠ q + 1 := fun k hk => by
    simp only [List.mem_cons, List.not_mem_nil, or_false] at hk
    omega
  have noq : q ∉ jBS b ∧ q + 1 ∉ jBS b := ⟨fun z => (off _ z).1 rfl, fun z => (off _ z).2 rfl⟩
  have loop : ∀ p it kinds (κ : Nat → Nat) (kd fk : Nat → Int32) (lk : Nat → Int64) (Y : ja_H) (w : Value), it + p = 24 → it + 1 ≤ kinds → kinds ≤ 24 → (∀ i, i < n → κ i < 32) → (∀ i, i < n → kd i = nI (κ i)) → (∀ i j, i < n → j < n → κ i ≠ κ j → ¬ jeqv δ a i j) → (∀ i j, i < n → j < n → κ i = κ j → a i = a j) → jmany κ n kinds → jBr Y b (nI n) nx gd ky so en kd fk lk → jfr (jBS b) X Y → K 46 [.ref b, .ref q, .int (nI kinds), .int (nI it), w] [] Y 0 0 := by
    intro p
    induction p with
    | zero => intro it kinds κ kd fk lk Y w hit hk1 hk2; omega
    | succ p ih =>
      intro it kinds κ kd fk lk Y w hit hk1 hk2 hκ hkd hD hA hM hb hf
      have hqY := hq.fr hf noq.1 noq.2
      refine kw_iload_n hB B_reduce_46 rfl ?_
      refine kw_bipush hB B_reduce_47 (v := nI 24) (by decide) ?_
      refine kn_icmp_gt hB B_reduce_49 (by omega) (by decide) (fun hc => absurd hc (by omega)) (fun _ => ?_)
      refine kw_aload_n hB B_reduce_52 rfl ?_
      refine kw_callV hB B_reduce_53 s_B_69 im_B_refine se_B_refine hb.1 rfl rfl (As := []) (c_B_refine l D g hb hn hnx hδ hkd hκ) rfl (by decide) (Nat.le_of_ble_eq_true rfl) (by omega) (by omega) (fun r X1 hq1 hl => ?_)
      have hsig : ∀ i j, i < n → j < n → (jsg κ δ i 8 = jsg κ δ j 8 → κ i = κ j ∧ ∀ c, c < 8 → κ (δ (i * 8 + c)) = κ (δ (j * 8 + c))) := fun i j hi hj => jsg_inj hκ hi hj hδ 8 (by omega)
      have hsig2 : ∀ i j, i < n → j < n → jsg κ δ i 8 ≠ jsg κ δ j 8 → ¬ jeqv δ a i j := by
        intro i j hi hj hne he
        have e1 : κ i = κ j := Classical.byContradiction fun z => hD i j hi hj z he
        have e2 : ∀ c, c < 8 → κ (δ (i * 8 + c)) = κ (δ (j * 8 + c)) := fun c hc => Classical.byContradiction fun z => hD _ _ (hδ _ (by omega)) (hδ _ (by omega)) z (he.step hc)
        have e3 : ∀ m, m ≤ 8 → jsg κ δ i m = jsg κ δ j m := by
          intro m
          induction m with
          | zero => intro _; exact e1
          | succ m ihm => intro hm; rw [jsg, jsg, ihm (by omega), e2 m (by omega)]
        exact hne (e3 8 (by omega))
      obtain ⟨hf1, ⟨m, κ', rep, kd', fk', lk', rfl, hm24, hb1, hkd', hKd⟩ | ⟨κ', rep, i25, fk', lk', rfl, hb1, hi25, hKd, hno⟩⟩ := hq1
      · have href : ∀ i j, i < n → j < n → κ' i = κ' j → κ i = κ j := fun i j hi hj e => (hsig i j hi hj ((hKd.eq hi hj).mp e)).1
        have hlt' : ∀ i, i < n → κ' i < m := fun i hi => (hKd.1 i hi).1
        have hmk := hM.le href hlt'
        have hD' : ∀ i j, i < n → j < n → κ' i ≠ κ' j → ¬ jeqv δ a i j := fun i j hi hj hne => hsig2 i j hi hj (fun z => hne ((hKd.eq hi hj).mpr z))
        have hA' : ∀ i j, i < n → j < n → κ' i = κ' j → a i = a j := fun i j hi hj e => hA i j hi hj (href i j hi hj e)
        refine kw_istore hB B_reduce_56 (by decide) rfl ?_
        refine kw_iload hB B_reduce_58 rfl ?_
        refine kw_bipush hB B_reduce_60 (v := nI 24) (by decide) ?_
        refine kn_icmp_le hB B_reduce_62 (by omega) (by decide) (fun _ => ?_) (fun hc => absurd hc (by omega))
        refine kw_iload hB B_reduce_74 rfl ?_
        refine kw_iload_n hB B_reduce_76 rfl ?_
        refine kn_icmp_ne hB B_reduce_77 (by omega) (by omega) (fun hne => ?_) (fun heq => ?_)
        · refine kw_iload hB B_reduce_87 rfl ?_
          refine kw_istore_n hB B_reduce_89 rfl (by decide) rfl ?_
          refine kn_iinc hB B_reduce_90 rfl (by decide) rfl ?_
          refine kw_goto hB B_reduce_93 ?_
          refine ih (it + 1) m κ' kd' fk' lk' X1 _ (by omega) (by omega) hm24 (fun i hi => by have := hlt' i hi; omega) hkd' hD' hA' ⟨rep, fun k hk => (hKd.2.1 k hk).1, fun k k' hk hk' e => ?_⟩ hb1 (hf.tr hf1)
          rw [(hKd.2.1 k hk).2, (hKd.2.1 k' hk').2] at e
          exact e
        · subst heq
          have hsame := hM.same href hlt'
          have hst : ∀ (w : List Nat) i j, i < n → j < n → κ' i = κ' j → jok w → a (jgo δ i w) = a (jgo δ j w) := by
            intro w
            induction w with
            | nil => intro i j hi hj e _; exact hA' i j hi hj e
            | cons c w ihw =>
              intro i j hi hj e hw
              have hc8 := hw c List.mem_cons_self
              exact ihw _ _ (hδ _ (by omega)) (hδ _ (by omega)) (hsame _ _ (hδ _ (by omega)) (hδ _ (by omega)) ((hsig i j hi hj ((hKd.eq hi hj).mp e)).2 c hc8)) (fun x hx => hw x (List.mem_cons_of_mem _ hx))
          have hq1 := hqY.fr hf1 noq.1 noq.2
          refine kw_aload_n hB B_reduce_80 rfl ?_
          refine kw_aload_n hB B_reduce_81 rfl ?_
          refine kw_iload_n hB B_reduce_82 rfl ?_
          refine kw_callV hB B_reduce_83 s_B_79 im_B_write se_B_write hb1.1 rfl rfl (As := [.ref q, .int (nI m)]) (c_B_write l D g hb1 hq1 hd hn hm24 hnx hδ hkd' hgd hKd.r) rfl (by decide) (Nat.le_of_ble_eq_true rfl) (by omega) (by omega) (fun r X2 hq2 hl2 => ?_)
          obtain ⟨rfl, G, f', rfl, hG, hG2, hf2⟩ := hq2
          refine kw_vret hF rfl B_reduce_86 ?_ (by rw [jLs_len, (hf.tr hf1).1]; rfl)
          have hfr2 := jLs_fr X1 q (nI m) (nI G) f'
          refine ⟨rfl, ⟨_, _, _, _, _, _, _, _, _, hb1.fr hfr2 (by simp; omega), hso⟩, ((hf.tr hf1).mono sub).tr (hfr2.mono (by simp)), Or.inl ⟨m, κ', rep, G, f', ⟨hm24, hKd.r, fun i j hi hj => ⟨fun e w hw => hst w i j hi hj e hw, fun e => Classical.byContradiction fun z => hD' i j hi hj z e⟩, hG, hG2, hf2⟩, jLs_r _ _ _ (by have := hq1.lt; omega)⟩⟩
      · refine kw_istore hB B_reduce_56 (by decide) rfl ?_
        refine kw_iload hB B_reduce_58 rfl ?_
        refine kw_bipush hB B_reduce_60 (v := nI 24) (by decide) ?_
        refine kn_icmp_le hB B_reduce_62 (by decide) (by decide) (fun hc => absurd hc (by decide)) (fun _ => ?_)
        refine kw_aload_n hB B_reduce_65 rfl ?_
        refine kw_aload_n hB B_reduce_66 rfl ?_
        have hq1 := hqY.fr hf1 noq.1 noq.2
        refine kw_callV hB B_reduce_67 s_B_72 im_B_letters se_B_letters hb1.1 rfl rfl (As := []) (c_B_letters l D g hb1 hn h1n hnx hδ hgd) rfl (by decide) (Nat.le_of_ble_eq_true rfl) (by omega) (by omega) (fun r X2 hq2 hl2 => ?_)
        obtain ⟨hf2, S, gd2, rfl, hb2, hS, hSb⟩ := hq2
        have hq2 := hq1.fr hf2 noq.1 noq.2
        refine kw_callV hB B_reduce_70 s_B_75 im_L_becomeAllOf se_L_becomeAllOf hq2.1 rfl rfl (As := [.int (nI S)]) (c_L_becomeAllOf l D g hq2 hS) rfl (by decide) (Nat.le_of_ble_eq_true rfl) (by omega) (by omega) (fun r X3 hq3 hl3 => ?_)
        obtain ⟨rfl, rfl⟩ := hq3
        have hfA := (hf.tr hf1).tr hf2
        refine kw_vret hF rfl B_reduce_73 ?_ (by rw [jLs_len, hfA.1]; rfl)
        have hfr2 := jLs_fr X2 q (nI (if S = 255 then 1 else 2)) (nI 1) (jallk S f0 8)
        refine ⟨rfl, ⟨_, _, _, _, _, _, _, _, _, hb2.fr hfr2 (by simp; omega), hso⟩, (hfA.mono sub).tr (hfr2.mono (by simp)), Or.inr ⟨S, fun k => if k = 24 then i25 else rep k, hS, hSb, jLs_r _ _ _ (by have := hq2.lt; omega), fun k hk => ?_, fun k k' hk hk' => ?_⟩⟩
        · show (if k = 24 then i25 else rep k) < n
          split
          · exact hi25
          · have := (hKd.2.1 k (by omega)).1; omega
        · show ¬ jeqv δ a (if k = 24 then i25 else rep k) (if k' = 24 then i25 else rep k')
          rw [if_neg (by omega : ¬ k = 24)]
          have hk1 := (hKd.2.1 k (by omega)).1
          split
          · exact hsig2 _ _ (by omega) hi25 (fun z => hno k (by omega) z.symm)
          · have hk2 := (hKd.2.1 k' (by omega)).1
            exact hsig2 _ _ (by omega) (by omega) (hKd.2.2 k k' hk (by omega)).2
  have init : ∀ p i (kd : Nat → Int32) (Y : ja_H) (v w : Value), i + p = n → (∀ s, s < i → kd s = nI (if a s = a 0 then 0 else 1)) → jBr Y b (nI n) nx gd ky so en kd fk lk → jfr (jBS b) X Y → K 2 [.ref b, .ref q, .int (nI i), v, w] [] Y 0 0 := by
    intro p
    induction p with
    | zero =>
      intro i kd Y v w hi hkd hb hf
      refine kw_iload_n hB B_reduce_2 rfl ?_
      refine kw_aload_n hB B_reduce_3 rfl ?_
      refine kw_getf hB B_reduce_4 f_B_48 hb.1 rfl ?_
      refine kn_icmp_ge hB B_reduce_7 (by omega) (by omega) (fun hc => ?_) (fun hc => absurd hc (by omega))
      refine kw_iconst hB B_reduce_42 (v := nI 1) (by decide) ?_
      refine kw_istore_n hB B_reduce_43 rfl (by decide) rfl ?_
      refine kw_iconst hB B_reduce_44 (v := nI 0) (by decide) ?_
      refine kw_istore_n hB B_reduce_45 rfl (by decide) rfl ?_
      refine loop 24 0 1 (fun s => if a s = a 0 then 0 else 1) kd fk lk Y _ (by omega) (by omega) (by omega) (fun s _ => ?_) (fun s hs => hkd s (by omega)) (fun s t hs ht hne he => ?_) (fun s t hs ht he => ?_) ⟨fun _ => 0, fun _ _ => h1n, fun k k' hk hk' _ => by omega⟩ hb hf
      · show (if a s = a 0 then 0 else 1) < 32
        split <;> decide
      · have e := he [] (fun _ z => by cases z)
        have e : a s = a t := e
        have hne : (if a s = a 0 then 0 else 1) ≠ (if a t = a 0 then 0 else 1) := hne
        rw [e] at hne
        exact hne rfl
      · have he : (if a s = a 0 then 0 else 1) = (if a t = a 0 then 0 else 1) := he
        revert he
        cases a s <;> cases a t <;> cases a 0 <;> simp
    | succ p ih =>
      intro i kd Y v w hi hkd hb hf
      refine kw_iload_n hB B_reduce_2 rfl ?_
      refine kw_aload_n hB B_reduce_3 rfl ?_
      refine kw_getf hB B_reduce_4 f_B_48 hb.1 rfl ?_
      refine kn_icmp_ge hB B_reduce_7 (by omega) (by omega) (fun hc => absurd hc (by omega)) (fun hc => ?_)
      refine kw_aload_n hB B_reduce_10 rfl ?_
      refine kw_getf hB B_reduce_11 f_B_32 hb.1 rfl ?_
      refine kw_iload_n hB B_reduce_14 rfl ?_
      refine kw_aload_n hB B_reduce_15 rfl ?_
      refine kw_getf hB B_reduce_16 f_B_19 hb.1 rfl ?_
      refine kw_iload_n hB B_reduce_19 rfl ?_
      refine kn_zald hB B_reduce_20 hb.2.2.1 rfl (by omega) (by decide) ?_
      refine kw_aload_n hB B_reduce_21 rfl ?_
      refine kw_getf hB B_reduce_22 f_B_19 hb.1 rfl ?_
      refine kw_iconst hB B_reduce_25 (v := nI 0) (by decide) ?_
      refine kn_zald hB B_reduce_26 hb.2.2.1 rfl (by omega) (by decide) ?_
      rw [hgd i (by omega), hgd 0 (by omega)]
      have put : ∀ t : Nat, t = (if a i = a 0 then 0 else 1) → K 35 [.ref b, .ref q, .int (nI i), v, w] [.int (nI t), .int (nI i), .ref (b + 6)] Y 0 0 := by
        intro t ht
        refine kn_iast hB B_reduce_35 hb.2.2.2.2.2.2.1 rfl (by omega) (by decide) ?_
        have hb1 := hb.s_kd (f' := upd kd i (nI t))
        have hf1 := hf.tr (jBS_set Y b 6 (.inl (0, 1536, .inl (upd kd i (nI t)))) (by decide))
        refine kn_iinc hB B_reduce_36 rfl (by decide) rfl ?_
        refine kw_goto hB B_reduce_39 ?_
        refine ih (i + 1) _ _ v w (by omega) (fun s hs => ?_) hb1 hf1
        by_cases hsi : s = i
        · subst hsi; rw [pk_us, ht]
        · rw [pk_un hsi]; exact hkd s (by omega)
      refine kn_icmp_ne hB B_reduce_27 (by cases a i <;> decide) (by cases a 0 <;> decide) (fun hne => ?_) (fun heq => ?_)
      · refine kw_iconst hB B_reduce_34 (v := nI 1) (by decide) ?_
        exact put 1 (by rw [if_neg]; intro z; exact hne (by rw [z]))
      · refine kw_iconst hB B_reduce_30 (v := nI 0) (by decide) ?_
        refine kw_goto hB B_reduce_31 ?_
        refine put 0 (by rw [if_pos]; revert heq; cases a i <;> cases a 0 <;> simp)
  refine kw_iconst hB B_reduce_0 (v := nI 0) (by decide) ?_
  refine kw_istore_n hB B_reduce_1 rfl (by decide) rfl ?_
  exact init n 0 kd X _ _ (by omega) (fun s hs => absurd hs (by omega)) h (jfr.rf _ _)
end JB6
