-- the model: copy, write
theorem jnb : ∀ a, a < 24 → vp_nar .byte (nI a) = nI a ∧ (nI a).toInt8.toInt32 = nI a := by decide +kernel
/-- the languages that lie in slots -/
def jTe (st gd tb : Nat → Int32) (f : Nat → Option jLan) : Prop := ∀ a L, a < 43 → f a = some L → jOk L ∧ st a = nI L.1 ∧ gd a = nI L.2.1 ∧ ∀ i, i < 8 * L.1 → tb (192 * a + i) = nI (jXf L i)
theorem jEr.of {X Y : ja_H} {s s' st st' gd gd' tb tb' li se el er cs ct : Nat → Int32} (h : jEr X s st gd tb li se el er cs ct) (hf : jfr [145, 155, 156, 157] X Y) (ht : jTr Y s' st' gd' tb') : jEr Y s' st' gd' tb' li se el er cs ct := by
  obtain ⟨h0, h1, h2, h3, h4, h5, h6, h7, h8, h9⟩ := h
  have no : ∀ j, 160 ≤ j → j ∉ [145, 155, 156, 157] := fun j hj z => by simp only [List.mem_cons, List.not_mem_nil, or_false] at z; omega
  exact ⟨ht.1, ht.2.1, ht.2.2.1, ht.2.2.2, hf.at (no _ (by decide)) h4, hf.at (no _ (by decide)) h5, hf.at (no _ (by decide)) h6, hf.at (no _ (by decide)) h7, hf.at (no _ (by decide)) h8, hf.at (no _ (by decide)) h9⟩
section JMW
variable (l : Launch) (D : va_G) (g : Nat × Nat) {X : ja_H}
set_option maxHeartbeats 8000000 in
set_option maxRecDepth 100000 in
theorem c_M_copy {a b : Nat} {L : jLan} {f : Nat → Option jLan} {s st gd tb : Nat → Int32} (h : jTr X s st gd tb) (hT : jTe st gd tb f) (ha : a < 43) (hb : b < 43) (hL : f a = some L) :
    AMet l D g 0 0 0 m_M_copy [.ref 145, .int (nI a), .int (nI b)] X (fun r X' => r = none ∧ ∃ (st' gd' tb' : Nat → Int32), jTr X' s st' gd' tb' ∧ jTe st' gd' tb' (va_up f b (some L)) ∧ (∀ i, i ≠ b → st' i = st i) ∧ (∀ i, i ≠ b → gd' i = gd i) ∧ (∀ i, i < 192 * b ∨ 192 * b + 192 ≤ i → tb' i = tb i) ∧ jfr [155, 156, 157] X X') := by
  obtain ⟨ok, l1, l2, l3⟩ := hT a L ha hL
  have L24 := ok.2.2.1
  have fS : ∀ (Y : ja_H) (p : Nat) (c : ja_C), p ∈ [155, 156, 157] → jfr [155, 156, 157] Y (Y.set p c) := fun Y p c hp => (jset_fr Y p c).mono (fun k hk => by rw [List.mem_singleton.mp hk]; exact hp)
  refine ja_metK (by decide) rfl (Nat.le_of_ble_eq_true rfl) fun K hB hF => ?_
  have loop : ∀ p k (tb' : Nat → Int32) (Y : ja_H), k + p = 192 → jTr Y s (upd st b (st a)) (upd gd b (gd a)) tb' → (∀ i, i < 192 * b ∨ 192 * b + 192 ≤ i → tb' i = tb i) → (∀ i, i < k → tb' (192 * b + i) = vp_nar .byte (tb (192 * a + i))) → (a = b → ∀ i, k ≤ i → i < 192 → tb' (192 * b + i) = tb (192 * b + i)) → jfr [155, 156, 157] X Y → K 26 [.ref 145, .int (nI a), .int (nI b), .int (nI k)] [] Y 0 0 := by
    intro p
    induction p with
    | zero =>
      intro k tb' Y hk e1 e2 e3 e4 hf
      refine kw_iload_n hB M_copy_26 rfl ?_
      refine kw_sipush hB M_copy_27 (v := nI 192) (by decide) ?_
      refine kn_icmp_ge hB M_copy_30 (by omega) (by decide) (fun _ => ?_) (fun z => absurd z (by omega))
      refine kw_vret hF rfl M_copy_63 ⟨rfl, _, _, tb', e1, fun a' L' ha' hL' => ?_, fun i hi => pk_un hi, fun i hi => pk_un hi, e2, hf⟩ hf.1
      by_cases z : a' = b
      · subst z
        rw [jup_self] at hL'
        cases hL'
        refine ⟨ok, by rw [pk_us]; exact l1, by rw [pk_us]; exact l2, fun i hi => ?_⟩
        rw [e3 i (by omega), l3 i hi]
        exact (jnb _ (Nat.lt_of_lt_of_le (ok.2.2.2.2.1 i hi) L24)).1
      · rw [jup_ne z] at hL'
        obtain ⟨q1, q2, q3, q4⟩ := hT a' L' ha' hL'
        have L24' := q1.2.2.1
        refine ⟨q1, by rw [pk_un z]; exact q2, by rw [pk_un z]; exact q3, fun i hi => ?_⟩
        rw [e2 _ (by omega)]
        exact q4 i hi
    | succ p ih =>
      intro k tb' Y hk e1 e2 e3 e4 hf
      refine kw_iload_n hB M_copy_26 rfl ?_
      refine kw_sipush hB M_copy_27 (v := nI 192) (by decide) ?_
      refine kn_icmp_ge hB M_copy_30 (by omega) (by decide) (fun z => absurd z (by omega)) (fun _ => ?_)
      refine kw_aload_n hB M_copy_33 rfl ?_
      refine kw_getf hB M_copy_34 f_M_43 e1.1 rfl ?_
      refine kw_sipush hB M_copy_37 (v := nI 192) (by decide) ?_
      refine kw_iload_n hB M_copy_40 rfl ?_
      refine kn_imul hB M_copy_41 ?_
      refine kw_iload_n hB M_copy_42 rfl ?_
      refine kn_iadd hB M_copy_43 ?_
      refine kw_aload_n hB M_copy_44 rfl ?_
      refine kw_getf hB M_copy_45 f_M_43 e1.1 rfl ?_
      refine kw_sipush hB M_copy_48 (v := nI 192) (by decide) ?_
      refine kw_iload_n hB M_copy_51 rfl ?_
      refine kn_imul hB M_copy_52 ?_
      refine kw_iload_n hB M_copy_53 rfl ?_
      refine kn_iadd hB M_copy_54 ?_
      refine kn_bald hB M_copy_55 e1.2.2.2 rfl (by omega) (by decide) ?_
      refine kn_bast hB M_copy_56 e1.2.2.2 rfl (by omega) (by decide) ?_
      have src : tb' (192 * a + k) = tb (192 * a + k) := by
        by_cases z : a = b
        · subst z; exact e4 rfl k (Nat.le_refl _) (by omega)
        · exact e2 _ (by omega)
      refine kn_iinc hB M_copy_57 rfl (by decide) rfl ?_
      refine kw_goto hB M_copy_60 ?_
      refine ih (k + 1) _ _ (by omega) (e1.s_tb (f' := upd tb' (192 * b + k) (vp_nar .byte (tb' (192 * a + k))))) (fun i hi => ?_) (fun i hi => ?_) (fun hab i h1 h2 => ?_) (hf.tr (fS Y 157 _ (by decide)))
      · rw [pk_un (by omega)]; exact e2 i hi
      · by_cases z : i = k
        · subst z; rw [pk_us, src]
        · rw [pk_un (by omega)]; exact e3 i (by omega)
      · rw [pk_un (by omega)]; exact e4 hab i (by omega) h2
  refine kw_aload_n hB M_copy_0 rfl ?_
  refine kw_getf hB M_copy_1 f_M_37 h.1 rfl ?_
  refine kw_iload_n hB M_copy_4 rfl ?_
  refine kw_aload_n hB M_copy_5 rfl ?_
  refine kw_getf hB M_copy_6 f_M_37 h.1 rfl ?_
  refine kw_iload_n hB M_copy_9 rfl ?_
  refine kn_iald hB M_copy_10 h.2.1 rfl ha (by decide) ?_
  refine kn_iast hB M_copy_11 h.2.1 rfl hb (by decide) ?_
  have g1 := h.s_st (f' := upd st b (st a))
  have f1 := fS X 155 (.inl (0, 43, .inl (upd st b (st a)))) (by decide)
  generalize X.set 155 (.inl (0, 43, .inl (upd st b (st a)))) = Y1 at g1 f1
  refine kw_aload_n hB M_copy_12 rfl ?_
  refine kw_getf hB M_copy_13 f_M_40 g1.1 rfl ?_
  refine kw_iload_n hB M_copy_16 rfl ?_
  refine kw_aload_n hB M_copy_17 rfl ?_
  refine kw_getf hB M_copy_18 f_M_40 g1.1 rfl ?_
  refine kw_iload_n hB M_copy_21 rfl ?_
  refine kn_iald hB M_copy_22 g1.2.2.1 rfl ha (by decide) ?_
  refine kn_iast hB M_copy_23 g1.2.2.1 rfl hb (by decide) ?_
  have g2 := g1.s_gd (f' := upd gd b (gd a))
  have f2 := f1.tr (fS Y1 156 (.inl (0, 43, .inl (upd gd b (gd a)))) (by decide))
  refine kw_iconst hB M_copy_24 (v := nI 0) (by decide) ?_
  refine kw_istore_n hB M_copy_25 rfl (by decide) rfl ?_
  exact loop 192 0 tb _ (by omega) g2 (fun _ _ => rfl) (fun i hi => absurd hi (by omega)) (fun _ _ _ _ => rfl) f2
/-- signs that are equal stay so -/
theorem jTold.step {V : Nat → Prop} {fi : Nat} {nxt : Nat → Nat → Nat} {acc : Nat → Bool} {n m e : Nat} {key rp : Nat → Nat} {W : Nat → List Nat} {se cs ct : Nat → Int32} (h : jTold nxt acc n key m e W rp se cs ct) (hx : jRx V fi nxt (8 * n) n key) : ∀ (w : List Nat), jok w → ∀ i j, i < n → j < n → jsi nxt acc W e (key i) = jsi nxt acc W e (key j) → jsi nxt acc W e (jkr nxt (key i) w) = jsi nxt acc W e (jkr nxt (key j) w) := by
  obtain ⟨t1, t2, t3, t4, t5, t6, ⟨c1, c2, c3⟩, t8⟩ := h
  intro w
  induction w with
  | nil => intro _ i j _ _ he; exact he
  | cons c w ih =>
    intro hw i j hi hj he
    obtain ⟨hc, hw'⟩ := jok_cons.mp hw
    obtain ⟨i', i1, i2⟩ := hx.2.2.2.2.1 (8 * i + c) (by omega)
    rw [show (8 * i + c) / 8 = i by omega, show (8 * i + c) % 8 + 1 = c + 1 by omega] at i2
    obtain ⟨j', j1, j2⟩ := hx.2.2.2.2.1 (8 * j + c) (by omega)
    rw [show (8 * j + c) / 8 = j by omega, show (8 * j + c) % 8 + 1 = c + 1 by omega] at j2
    obtain ⟨a, a1, a2, a3⟩ := t8 i hi
    obtain ⟨b, b1, b2, b3⟩ := t8 j hj
    have hab : a = b := c3 a b a1 b1 (by rw [a2, b2]; exact he)
    subst hab
    show jsi nxt acc W e (jkr nxt (nxt (key i) (c + 1)) w) = jsi nxt acc W e (jkr nxt (nxt (key j) (c + 1)) w)
    rw [← i2, ← j2]
    exact ih hw' i' j' i1 j1 (by rw [i2, j2, a3 (c + 1) (by omega) (by omega), b3 (c + 1) (by omega) (by omega)])
set_option maxHeartbeats 16000000 in
set_option maxRecDepth 100000 in
theorem c_M_write {V : Nat → Prop} {fi n m e to : Nat} {nxt : Nat → Nat → Nat} {acc : Nat → Bool} {key rp : Nat → Nat} {W : Nat → List Nat} {f : Nat → Option jLan} {s0 s st gd tb li se el er cs ct : Nat → Int32} (h : jEr X s st gd tb li se el er cs ct) (hR : jRu l D g V fi nxt acc s0 st gd tb) (hs : ∀ j, 18 ≤ j → j ≤ 25 → s j = s0 j) (hm : s 32 = nI m) (hx : jRx V fi nxt (8 * n) n key) (hT : jTold nxt acc n key m e W rp se cs ct) (hf0 : jTe st gd tb f) (hto : to < 43) (hto41 : to ≠ 41) :
    AMet l D g 4 0 0 m_M_write [.ref 145, .int (nI to)] X (fun r X' => r = none ∧ ∃ (st' gd' tb' li' : Nat → Int32), jEr X' s st' gd' tb' li' se el er cs ct ∧ jTe st' gd' tb' (va_up (va_up f 41 (some (jMk (fun w => acc (jkr nxt fi w))))) to (some (jMk (fun w => acc (jkr nxt fi w))))) ∧ jfr [155, 156, 157, 160] X X') := by
  have hT0 := hT
  obtain ⟨t1, t2, t3, t4, t5, t6, hCk, t8⟩ := hT
  have hCk0 := hCk
  obtain ⟨c1, c2, c3⟩ := hCk
  obtain ⟨v0, v1, v2, hX⟩ := hR
  have slt : ∀ k, jsi nxt acc W e k < 2 ^ 25 := fun k => Nat.lt_of_lt_of_le (jsi_lt nxt acc W k e) (Nat.pow_le_pow_right (by decide) t2)
  have hn1 := hx.1
  -- the class of a key, and its first key
  have cex : ∀ k, ∃ c, (∃ i, i < n ∧ key i = k) → c < m ∧ jsi nxt acc W e (rp c) = jsi nxt acc W e k := fun k => by
    by_cases hk : ∃ i, i < n ∧ key i = k
    · obtain ⟨i, hi, rfl⟩ := hk
      obtain ⟨c, q1, q2, -⟩ := t8 i hi
      exact ⟨c, fun _ => ⟨q1, q2⟩⟩
    · exact ⟨0, fun z => absurd z hk⟩
  obtain ⟨cl, hcl⟩ : ∃ cl : Nat → Nat, ∀ k, (∃ i, i < n ∧ key i = k) → cl k < m ∧ jsi nxt acc W e (rp (cl k)) = jsi nxt acc W e k := ⟨fun k => Classical.choose (cex k), fun k => Classical.choose_spec (cex k)⟩
  have rpk : ∀ c, c < m → ∃ i, i < n ∧ key i = rp c := fun c hc => by obtain ⟨-, -, i, hi, he⟩ := c2 c hc; exact ⟨i, hi, he.symm⟩
  have clo : ∀ k x, (∃ i, i < n ∧ key i = k) → 1 ≤ x → x ≤ 8 → ∃ j, j < n ∧ key j = nxt k x := fun k x ⟨i, hi, hk⟩ h1 h8 => by
    obtain ⟨j, j1, j2⟩ := hx.2.2.2.2.1 (8 * i + (x - 1)) (by omega)
    rw [show (8 * i + (x - 1)) / 8 = i by omega, show (8 * i + (x - 1)) % 8 + 1 = x by omega, hk] at j2
    exact ⟨j, j1, j2⟩
  have vk : ∀ k, (∃ i, i < n ∧ key i = k) → V k := fun k ⟨i, hi, hk⟩ => by rw [← hk]; exact hx.2.2.1 i hi
  -- classOf finds it
  have find : ∀ (k : Nat) (c : Nat), (∃ i, i < n ∧ key i = k) → c < m → cs c = se k → c = cl k := fun k c hk hc he => by
    obtain ⟨q1, q2⟩ := hcl k hk
    obtain ⟨i, hi, hki⟩ := hk
    refine c3 c (cl k) hc q1 ?_
    rw [q2, ← hki]
    rw [(c2 c hc).2.1, ← hki, t6 i hi] at he
    exact (nI_eq (by have := slt (rp c); omega) (by have := slt (key i); omega)).mp he
  have never : ∀ k, (∃ i, i < n ∧ key i = k) → ¬ ∀ c, c < m → cs c ≠ se k := fun k hk hno => by
    obtain ⟨q1, q2⟩ := hcl k hk
    obtain ⟨i, hi, hki⟩ := hk
    exact hno (cl k) q1 (by rw [(c2 _ q1).2.1, q2, ← hki, t6 i hi])
  have V' : ∀ k c, (∃ c, c < m ∧ k = rp c) → 1 ≤ c → c ≤ 8 → ∃ c', c' < m ∧ rp (cl (nxt k c)) = rp c' := fun k c ⟨c0, h0, hk⟩ h1 h8 => ⟨cl (nxt k c), (hcl _ (clo k c (by rw [hk]; exact rpk c0 h0) h1 h8)).1, rfl⟩
  have fS : ∀ (Y : ja_H) (p : Nat) (c : ja_C), p ∈ [155, 156, 157, 160] → jfr [155, 156, 157, 160] Y (Y.set p c) := fun Y p c hp => (jset_fr Y p c).mono (fun k hk => by rw [List.mem_singleton.mp hk]; exact hp)
  have hrun : ∀ (w : List Nat), jok w → ∀ k k', (∃ i, i < n ∧ key i = k) → (∃ i, i < n ∧ key i = k') → jsi nxt acc W e k = jsi nxt acc W e k' → jsi nxt acc W e (jkr (fun k c => rp (cl (nxt k c))) k w) = jsi nxt acc W e (jkr nxt k' w) := by
    intro w
    induction w with
    | nil => intro _ k k' _ _ he; exact he
    | cons c w ih =>
      intro hw k k' hk hk' he
      obtain ⟨hc, hw'⟩ := jok_cons.mp hw
      have n1 := clo k (c + 1) hk (by omega) (by omega)
      have n2 := clo k' (c + 1) hk' (by omega) (by omega)
      obtain ⟨q1, q2⟩ := hcl _ n1
      show jsi nxt acc W e (jkr (fun k c => rp (cl (nxt k c))) (rp (cl (nxt k (c + 1)))) w) = jsi nxt acc W e (jkr nxt (nxt k' (c + 1)) w)
      refine ih hw' _ _ (rpk _ q1) n2 ?_
      rw [q2]
      obtain ⟨i, hi, hki⟩ := hk
      obtain ⟨j, hj, hkj⟩ := hk'
      have := hT0.step hx [c] (fun d hd => by rw [List.mem_singleton.mp hd]; exact hc) i j hi hj (by rw [hki, hkj]; exact he)
      rw [hki, hkj] at this
      exact this
  have sacc : ∀ k k', jsi nxt acc W e k = jsi nxt acc W e k' → acc k = acc k' := fun k k' he => by
    have := jsi_eq.mp he 0 (by omega)
    rw [t3] at this
    exact this
  refine ja_metK (by decide) rfl (Nat.le_of_ble_eq_true rfl) fun K hB hF => ?_
  have fik : ∃ i, i < n ∧ key i = fi := ⟨0, by omega, hx.2.1⟩
  obtain ⟨fc1, fc2⟩ := hcl fi fik
  have clrp : ∀ c, c < m → cl (rp c) = c := fun c hc => by
    obtain ⟨q1, q2⟩ := hcl (rp c) (rpk c hc)
    exact c3 _ _ q1 hc q2
  have V1536 : ∀ k, (∃ c, c < m ∧ k = rp c) → k < 1536 := fun k ⟨c, hc, hk⟩ => v2 _ (vk k (by rw [hk]; exact rpk c hc))
  have few : ∀ {t N : Nat} {κ δ ε : Nat → Nat} {nx ky so en : Nat → Int32}, jX (fun k => ∃ c, c < m ∧ k = rp c) (rp (cl fi)) (fun k c => rp (cl (nxt k c))) t N κ δ ε nx ky so en → N ≤ m := fun {t N κ δ ε nx ky so en} hj => by
    refine jpig m (fun i => cl (κ i)) N (fun i hi => ?_) (fun i j hi hj' he => ?_)
    · obtain ⟨c, hc, hk⟩ := hj.2.2.1 i hi
      show cl (κ i) < m
      rw [hk, clrp c hc]; exact hc
    · obtain ⟨c, hc, hk⟩ := hj.2.2.1 i hi
      obtain ⟨c', hc', hk'⟩ := hj.2.2.1 j hj'
      have he : cl (κ i) = cl (κ j) := he
      rw [hk, hk', clrp c hc, clrp c' hc'] at he
      subst he
      exact hj.2.2.2.1 i j hi hj' (by rw [hk, hk'])
  -- the end
  have last : ∀ (N G : Nat) (κ δ ε : Nat → Nat) (nx ky so en tb' li' : Nat → Int32) (Y : ja_H) (k : Nat) (u5 u6 u7 : Value), jX (fun k => ∃ c, c < m ∧ k = rp c) (rp (cl fi)) (fun k c => rp (cl (nxt k c))) (8 * N) N κ δ ε nx ky so en → G < 2 ^ N → (∀ i, i < N → G.testBit i = acc (κ i)) → jEr Y s st gd tb' li' se el er cs ct → (∀ i, i < 7872 ∨ 8064 ≤ i → tb' i = tb i) → (∀ i, i < 8 * N → tb' (7872 + i) = nI (δ i)) → jfr [155, 156, 157, 160] X Y → K 169 [.ref 145, .int (nI to), .int (nI N), .int (nI G), .int (nI k), u5, u6, u7] [] Y 0 0 := by
    intro N G κ δ ε nx ky so en tb' li' Y k u5 u6 u7 hj hG1 hG2 e1 e2 e3 hf
    have hNm := few hj
    have hb := hj.bfs
    have hgl : ∀ (w : List Nat), jok w → ∀ q, q < N → G.testBit (jgo δ q w) = acc (jkr nxt (κ q) w) := fun w hw q hq => by
      have h1 := jgo_lt (fun s hs => hb.2.1 s hs) w q hq hw
      rw [hG2 _ h1, hj.run w q hq hw]
      obtain ⟨c, hc, hk⟩ := hj.2.2.1 q hq
      have hkq : ∃ i, i < n ∧ key i = κ q := by rw [hk]; exact rpk c hc
      exact sacc _ _ (hrun w hw (κ q) (κ q) hkq hkq rfl)
    have hcan : jCan N G δ := by
      refine ⟨hj.1, by omega, hG1, fun s hs => hb.2.1 s hs, fun q q' hq hq' hw => ?_, fun j h1 h2 => ?_⟩
      · obtain ⟨c, hc, hk⟩ := hj.2.2.1 q hq
        obtain ⟨c', hc', hk'⟩ := hj.2.2.1 q' hq'
        refine hj.2.2.2.1 q q' hq hq' ?_
        have : jsi nxt acc W e (κ q) = jsi nxt acc W e (κ q') := jsi_eq.mpr (fun j hj' => by
          have := hw (W j) (t4 j hj')
          rw [hgl _ (t4 j hj') q hq, hgl _ (t4 j hj') q' hq'] at this
          exact this)
        rw [hk, hk'] at this ⊢
        rw [c3 c c' hc hc' this]
      · obtain ⟨a1, a2, a3⟩ := hb.2.2 j h1 h2
        exact ⟨ε j, a3, a1, a2⟩
    have hlang : ∀ w, jok w → G.testBit (jgo δ 0 w) = acc (jkr nxt fi w) := fun w hw => by
      have h1 := jgo_lt (fun s hs => hb.2.1 s hs) w 0 hj.1 hw
      rw [hG2 _ h1, hj.run w 0 hj.1 hw, hj.2.1]
      exact sacc _ _ (hrun w hw _ _ (rpk _ fc1) fik fc2)
    have hfit : jFitL (fun w => acc (jkr nxt fi w)) (jLanOf N G δ) := jFit.of (Or.inl ⟨hcan, hlang⟩)
    rw [jMk_of hfit] at hF
    refine kw_aload_n hB M_write_169 rfl ?_
    refine kw_getf hB M_write_170 f_M_37 e1.1 rfl ?_
    refine kw_bipush hB M_write_173 (v := nI 41) (by decide) ?_
    refine kw_iload_n hB M_write_175 rfl ?_
    refine kn_iast hB M_write_176 e1.2.1 rfl (by decide) (by decide) ?_
    have g1 := e1.s_st (f' := upd st 41 (nI N))
    have f1 := hf.tr (fS Y 155 (.inl (0, 43, .inl (upd st 41 (nI N)))) (by decide))
    generalize Y.set 155 (.inl (0, 43, .inl (upd st 41 (nI N)))) = Y1 at g1 f1
    refine kw_aload_n hB M_write_177 rfl ?_
    refine kw_getf hB M_write_178 f_M_40 g1.1 rfl ?_
    refine kw_bipush hB M_write_181 (v := nI 41) (by decide) ?_
    refine kw_iload_n hB M_write_183 rfl ?_
    refine kn_iast hB M_write_184 g1.2.2.1 rfl (by decide) (by decide) ?_
    have g2 := g1.s_gd (f' := upd gd 41 (nI G))
    have f2 := f1.tr (fS Y1 156 (.inl (0, 43, .inl (upd gd 41 (nI G)))) (by decide))
    generalize Y1.set 156 (.inl (0, 43, .inl (upd gd 41 (nI G)))) = Y2 at g2 f2
    have hTe : jTe (upd st 41 (nI N)) (upd gd 41 (nI G)) tb' (va_up f 41 (some (jLanOf N G δ))) := fun a L ha hL => by
      by_cases z : a = 41
      · subst z
        rw [jup_self] at hL
        cases hL
        refine ⟨hfit.ok, pk_us .., pk_us .., fun i hi => ?_⟩
        have hi : i < 8 * N := hi
        rw [show 192 * 41 + i = 7872 + i by omega, e3 i hi, jXf_of hi]
      · rw [jup_ne z] at hL
        obtain ⟨q1, q2, q3, q4⟩ := hf0 a L ha hL
        have := q1.2.2.1
        refine ⟨q1, by rw [pk_un z]; exact q2, by rw [pk_un z]; exact q3, fun i hi => ?_⟩
        rw [e2 _ (by omega)]; exact q4 i hi
    refine kw_aload_n hB M_write_185 rfl ?_
    refine kw_bipush hB M_write_186 (v := nI 41) (by decide) ?_
    refine kw_iload_n hB M_write_188 rfl ?_
    refine kw_callV hB M_write_189 s_M_196 im_M_copy se_M_copy g2.1 rfl rfl (As := [.int (nI 41), .int (nI to)]) (c_M_copy l D g g2.tr hTe (by decide) hto (by rw [jup_self])) rfl (by decide) (Nat.le_of_ble_eq_true rfl) (by omega) (by omega) (fun r X1 hq hl => ?_)
    obtain ⟨rfl, st', gd', tb2, p1, p2, p3, p4, p5, p6⟩ := hq
    have f3 := f2.tr (p6.mono (T := [155, 156, 157, 160]) (fun k hk => by simp only [List.mem_cons, List.not_mem_nil, or_false] at hk ⊢; omega))
    refine kw_vret hF rfl M_write_192 ⟨rfl, st', gd', tb2, li', g2.of (p6.mono (fun k hk => by simp only [List.mem_cons, List.not_mem_nil, or_false] at hk ⊢; omega)) p1, p2, f3⟩ f3.1
  have outer : ∀ p k (N G : Nat) (κ δ ε : Nat → Nat) (nx ky so en tb' li' : Nat → Int32) (Y : ja_H) (u5 : Value) (u6 u7 : Value), k + p = 24 → k ≤ N → jX (fun k => ∃ c, c < m ∧ k = rp c) (rp (cl fi)) (fun k c => rp (cl (nxt k c))) (8 * k) N κ δ ε nx ky so en → G < 2 ^ k → (∀ i, i < k → G.testBit i = acc (κ i)) → jEr Y s st gd tb' li' se el er cs ct → (∀ i, i < 7872 ∨ 8064 ≤ i → tb' i = tb i) → (∀ i, i < 8 * k → tb' (7872 + i) = nI (δ i)) → (∀ i, i < N → li' i = nI (κ i)) → jfr [155, 156, 157, 160] X Y → K 26 [.ref 145, .int (nI to), .int (nI N), .int (nI G), .int (nI k), u5, u6, u7] [] Y 0 0 := by
    intro p
    induction p with
    | zero =>
      intro k N G κ δ ε nx ky so en tb' li' Y u5 u6 u7 hk hkN hj hG1 hG2 e1 e2 e3 e4 hf
      have hNm := few hj
      have e : k = N := by omega
      subst e
      refine kw_iload hB M_write_26 rfl ?_
      refine kw_iload_n hB M_write_28 rfl ?_
      refine kn_icmp_ge hB M_write_29 (by omega) (by omega) (fun _ => ?_) (fun z => absurd z (by omega))
      exact last k G κ δ ε nx ky so en tb' li' Y k _ _ _ hj hG1 hG2 e1 e2 e3 hf
    | succ p ih =>
      intro k N G κ δ ε nx ky so en tb' li' Y u5 u6 u7 hk hkN hj hG1 hG2 e1 e2 e3 e4 hf
      have hNm := few hj
      refine kw_iload hB M_write_26 rfl ?_
      refine kw_iload_n hB M_write_28 rfl ?_
      refine kn_icmp_ge hB M_write_29 (by omega) (by omega) (fun hz => ?_) (fun hz => ?_)
      · have e : k = N := by omega
        subst e
        exact last k G κ δ ε nx ky so en tb' li' Y k _ _ _ hj hG1 hG2 e1 e2 e3 hf
      · obtain ⟨ck, hck, hkk⟩ := hj.2.2.1 k hz
        have hkr : ∃ i, i < n ∧ key i = κ k := by rw [hkk]; exact rpk ck hck
        have hVk := vk _ hkr
        obtain ⟨-, hk2, -⟩ := hX Y s st gd tb' e1.tr hs (fun _ _ => rfl) (fun _ _ => rfl) e2
        refine kw_iload_n hB M_write_32 rfl ?_
        refine kw_aload_n hB M_write_33 rfl ?_
        refine kw_aload_n hB M_write_34 rfl ?_
        refine kw_getf hB M_write_35 f_M_53 e1.1 rfl ?_
        refine kw_iload hB M_write_38 rfl ?_
        refine kn_iald hB M_write_40 e1.2.2.2.2.1 rfl (by omega) (by decide) ?_
        rw [e4 k hz]
        refine kw_callV hB M_write_41 s_M_177 im_M_mayEnd se_M_mayEnd e1.1 rfl rfl (As := [.int (nI (κ k))]) (hk2 _ hVk) rfl (by decide) (Nat.le_of_ble_eq_true rfl) (by omega) (by omega) (fun r X1 hq hl => ?_)
        obtain ⟨rfl, hxeq⟩ := hq
        obtain rfl := hxeq.symm
        have inner : ∀ q t (N : Nat) (κ δ ε : Nat → Nat) (nx ky so en tb' li' : Nat → Int32) (Y : ja_H) (G2 : Nat) (u6 u7 : Value), t + q = 8 → k < N → jX (fun k => ∃ c, c < m ∧ k = rp c) (rp (cl fi)) (fun k c => rp (cl (nxt k c))) (8 * k + t) N κ δ ε nx ky so en → G2 < 2 ^ (k + 1) → (∀ i, i < k + 1 → G2.testBit i = acc (κ i)) → jEr Y s st gd tb' li' se el er cs ct → (∀ i, i < 7872 ∨ 8064 ≤ i → tb' i = tb i) → (∀ i, i < 8 * k + t → tb' (7872 + i) = nI (δ i)) → (∀ i, i < N → li' i = nI (κ i)) → jfr [155, 156, 157, 160] X Y → K 60 [.ref 145, .int (nI to), .int (nI N), .int (nI G2), .int (nI k), .int (nI (t + 1)), u6, u7] [] Y 0 0 := by
          intro q
          induction q with
          | zero =>
            intro t N κ δ ε nx ky so en tb' li' Y G2 u6 u7 ht hkN hj hG1 hG2 e1 e2 e3 e4 hf
            refine kw_iload hB M_write_60 rfl ?_
            refine kw_bipush hB M_write_62 (v := nI 8) (by decide) ?_
            refine kn_icmp_gt hB M_write_64 (by omega) (by decide) (fun _ => ?_) (fun z => absurd z (by omega))
            refine kn_iinc hB M_write_163 rfl (by decide) rfl ?_
            refine kw_goto hB M_write_166 ?_
            rw [show 8 * k + t = 8 * (k + 1) by omega] at hj e3
            exact ih (k + 1) N G2 κ δ ε nx ky so en tb' li' Y _ _ _ (by omega) (by omega) hj hG1 hG2 e1 e2 e3 e4 hf
          | succ q ihq =>
            intro t N κ δ ε nx ky so en tb' li' Y G2 u6 u7 ht hkN hj hG1 hG2 e1 e2 e3 e4 hf
            have hNm := few hj
            obtain ⟨ck, hck, hkk⟩ := hj.2.2.1 k hkN
            have hkr : ∃ i, i < n ∧ key i = κ k := by rw [hkk]; exact rpk ck hck
            have hVk := vk _ hkr
            have hnk := clo (κ k) (t + 1) hkr (by omega) (by omega)
            obtain ⟨nc1, nc2⟩ := hcl _ hnk
            obtain ⟨-, -, hk3⟩ := hX Y s st gd tb' e1.tr hs (fun _ _ => rfl) (fun _ _ => rfl) e2
            have hdiv : (8 * k + t) / 8 = k := by omega
            have hmod : (8 * k + t) % 8 + 1 = t + 1 := by omega
            refine kw_iload hB M_write_60 rfl ?_
            refine kw_bipush hB M_write_62 (v := nI 8) (by decide) ?_
            refine kn_icmp_gt hB M_write_64 (by omega) (by decide) (fun z => absurd z (by omega)) (fun _ => ?_)
            refine kw_aload_n hB M_write_67 rfl ?_
            refine kw_getf hB M_write_68 f_M_68 e1.1 rfl ?_
            refine kw_aload_n hB M_write_71 rfl ?_
            refine kw_aload_n hB M_write_72 rfl ?_
            refine kw_aload_n hB M_write_73 rfl ?_
            refine kw_getf hB M_write_74 f_M_53 e1.1 rfl ?_
            refine kw_iload hB M_write_77 rfl ?_
            refine kn_iald hB M_write_79 e1.2.2.2.2.1 rfl (by omega) (by decide) ?_
            rw [e4 k hkN]
            refine kw_iload hB M_write_80 rfl ?_
            refine kw_callV hB M_write_82 s_M_180 im_M_next se_M_next e1.1 rfl rfl (As := [.int (nI (κ k)), .int (nI (t + 1))]) (hk3 (κ k) (t + 1) hVk (by omega) (by omega)) rfl (by decide) (Nat.le_of_ble_eq_true rfl) (by omega) (by omega) (fun r X1 hq hl => ?_)
            obtain ⟨rfl, hxeq⟩ := hq
            obtain rfl := hxeq.symm
            refine kw_callV hB M_write_85 s_M_189 im_M_classOf se_M_classOf e1.1 rfl rfl (As := [.int (nI (nxt (κ k) (t + 1)))]) (c_M_classOf l D g e1 hm c1 (v2 _ (vk _ hnk))) rfl (by decide) (Nat.le_of_ble_eq_true rfl) (by omega) (by omega) (fun r X1 hq hl => ?_)
            rcases hq with ⟨cc, hcc, hce, -, rfl, hxe⟩ | ⟨hno, -⟩
            rotate_left
            · exact absurd hno (never _ hnk)
            obtain rfl := hxe.symm
            have hcc' := find _ cc hnk hcc hce
            subst hcc'
            refine kn_iald hB M_write_88 e1.2.2.2.2.2.2.2.2.2 rfl (by omega) (by decide) ?_
            rw [(c2 _ nc1).1]
            have hr15 := V1536 (rp (cl (nxt (κ k) (t + 1)))) ⟨_, nc1, rfl⟩
            -- the place is found
            have b135 : ∀ (at' N2 : Nat) (κ2 δ2 ε2 : Nat → Nat) (nx2 ky2 so2 en2 li2 : Nat → Int32) (Z : ja_H), at' < N2 → k < N2 → jX (fun k => ∃ c, c < m ∧ k = rp c) (rp (cl fi)) (fun k c => rp (cl (nxt k c))) (8 * k + (t + 1)) N2 κ2 δ2 ε2 nx2 ky2 so2 en2 → (∀ i, i < 8 * k + t → δ2 i = δ i) → δ2 (8 * k + t) = at' → (∀ i, i < k + 1 → κ2 i = κ i) → jEr Z s st gd tb' li2 se el er cs ct → (∀ i, i < N2 → li2 i = nI (κ2 i)) → jfr [155, 156, 157, 160] X Z → K 135 [.ref 145, .int (nI to), .int (nI N2), .int (nI G2), .int (nI k), .int (nI (t + 1)), .int (nI (rp (cl (nxt (κ k) (t + 1))))), .int (nI at')] [] Z 0 0 := by
              intro at' N2 κ2 δ2 ε2 nx2 ky2 so2 en2 li2 Z h1 h2 h3 h4 h5 h6 h7 h8 h9
              have hN2 := few h3
              have hnb := jnb at' (by omega)
              refine kw_aload_n hB M_write_135 rfl ?_
              refine kw_getf hB M_write_136 f_M_43 h7.1 rfl ?_
              refine kw_sipush hB M_write_139 (v := nI 7872) (by decide) ?_
              refine kw_bipush hB M_write_142 (v := nI 8) (by decide) ?_
              refine kw_iload hB M_write_144 rfl ?_
              refine kn_imul hB M_write_146 ?_
              refine kn_iadd hB M_write_147 ?_
              refine kw_iload hB M_write_148 rfl ?_
              refine kn_iadd hB M_write_150 ?_
              refine kw_iconst hB M_write_151 (v := nI 1) (by decide) ?_
              refine kn_isub hB M_write_152 (by omega) ?_
              refine kw_iload hB M_write_153 rfl ?_
              refine kw_i2b hB M_write_155 (v := nI at') hnb.2 ?_
              rw [show 7872 + 8 * k + (t + 1) - 1 = 7872 + (8 * k + t) by omega]
              refine kn_bast hB M_write_156 h7.2.2.2.1 rfl (by omega) (by decide) ?_
              rw [hnb.1]
              refine kn_iinc hB M_write_157 rfl (by decide) rfl ?_
              refine kw_goto hB M_write_160 ?_
              refine ihq (t + 1) N2 κ2 δ2 ε2 nx2 ky2 so2 en2 _ li2 _ G2 _ _ (by omega) h2 h3 hG1 (fun i hi => by rw [h6 i hi]; exact hG2 i hi) (h7.s_tb (f' := upd tb' (7872 + (8 * k + t)) (nI at'))) (fun i hi => ?_) (fun i hi => ?_) h8 (h9.tr (fS Z 157 _ (by decide)))
              · rw [pk_un (by omega)]; exact e2 i hi
              · by_cases z : i = 8 * k + t
                · subst z; rw [pk_us, h5]
                · rw [pk_un (by omega), e3 i (by omega), h4 i (by omega)]
            have look : ∀ r at', at' + r = N → (∀ j, j < at' → κ j ≠ rp (cl (nxt (κ k) (t + 1)))) → K 94 [.ref 145, .int (nI to), .int (nI N), .int (nI G2), .int (nI k), .int (nI (t + 1)), .int (nI (rp (cl (nxt (κ k) (t + 1))))), .int (nI at')] [] Y 0 0 := by
              intro r
              induction r with
              | zero =>
                intro at' ha hno
                have e : at' = N := by omega
                subst e
                have hj2 := hj.new (k := rp (cl (nxt (κ k) (t + 1)))) (by omega) (by rw [hdiv, hmod]) ⟨_, nc1, rfl⟩ hno
                have hN2 := few hj2
                refine kw_iload hB M_write_94 rfl ?_
                refine kw_iload_n hB M_write_96 rfl ?_
                refine kn_icmp_ge hB M_write_97 (by omega) (by omega) (fun _ => ?_) (fun z => absurd z (by omega))
                refine kw_iload hB M_write_118 rfl ?_
                refine kw_iload_n hB M_write_120 rfl ?_
                refine kn_icmp_ne hB M_write_121 (by omega) (by omega) (fun z => absurd rfl z) (fun _ => ?_)
                refine kw_aload_n hB M_write_124 rfl ?_
                refine kw_getf hB M_write_125 f_M_53 e1.1 rfl ?_
                refine kw_iload_n hB M_write_128 rfl ?_
                refine kw_iload hB M_write_129 rfl ?_
                refine kn_iast hB M_write_131 e1.2.2.2.2.1 rfl (by omega) (by decide) ?_
                refine kn_iinc hB M_write_132 rfl (by decide) rfl ?_
                refine b135 at' (at' + 1) _ _ _ _ _ _ _ _ _ (by omega) (by omega) hj2 (fun i hi => jup_ne (by omega)) jup_self (fun i hi => jup_ne (by omega)) (e1.s_li (f' := upd li' at' (nI (rp (cl (nxt (κ k) (t + 1))))))) (fun i hi => ?_) (hf.tr (fS Y 160 _ (by decide)))
                by_cases z : i = at'
                · subst z; rw [pk_us, jup_self]
                · rw [pk_un z, jup_ne z]; exact e4 i (by omega)
              | succ r ihr =>
                intro at' ha hno
                have hκ15 := V1536 _ (hj.2.2.1 at' (by omega))
                refine kw_iload hB M_write_94 rfl ?_
                refine kw_iload_n hB M_write_96 rfl ?_
                refine kn_icmp_ge hB M_write_97 (by omega) (by omega) (fun z => absurd z (by omega)) (fun _ => ?_)
                refine kw_aload_n hB M_write_100 rfl ?_
                refine kw_getf hB M_write_101 f_M_53 e1.1 rfl ?_
                refine kw_iload hB M_write_104 rfl ?_
                refine kn_iald hB M_write_106 e1.2.2.2.2.1 rfl (by omega) (by decide) ?_
                rw [e4 at' (by omega)]
                refine kw_iload hB M_write_107 rfl ?_
                refine kn_icmp_eq hB M_write_109 (by omega) (by omega) (fun heq => ?_) (fun hne => ?_)
                · have hj2 := hj.old (j := at') (by omega) (by omega) (by rw [hdiv, hmod]; exact heq)
                  refine kw_iload hB M_write_118 rfl ?_
                  refine kw_iload_n hB M_write_120 rfl ?_
                  refine kn_icmp_ne hB M_write_121 (by omega) (by omega) (fun _ => ?_) (fun z => absurd z (by omega))
                  exact b135 at' N κ _ ε _ ky so en li' Y (by omega) hkN hj2 (fun i hi => jup_ne (by omega)) jup_self (fun _ _ => rfl) e1 e4 hf
                · refine kn_iinc hB M_write_112 rfl (by decide) rfl ?_
                  refine kw_goto hB M_write_115 ?_
                  exact ihr (at' + 1) (by omega) (fun j hj' => by
                    by_cases z : j = at'
                    · subst z; exact hne
                    · exact hno j (by omega))
            refine kw_istore hB M_write_89 (by decide) rfl ?_
            refine kw_iconst hB M_write_91 (v := nI 0) (by decide) ?_
            refine kw_istore hB M_write_92 (by decide) rfl ?_
            exact look N 0 (by omega) (fun j hj' => absurd hj' (by omega))
        have tail : ∀ y : Nat, (y = 0 ∧ acc (κ k) = false ∨ y = 2 ^ k ∧ acc (κ k) = true) → K 55 [.ref 145, .int (nI to), .int (nI N), .int (nI G), .int (nI k), u5, u6, u7] [.int (nI y), .int (nI G)] Y 0 0 := by
          intro y hy
          refine kw_ior hB M_write_55 ?_
          rw [jb_or]
          refine kw_istore_n hB M_write_56 rfl (by decide) rfl ?_
          refine kw_iconst hB M_write_57 (v := nI 1) (by decide) ?_
          refine kw_istore hB M_write_58 (by decide) rfl ?_
          have hp : 2 ^ k < 2 ^ (k + 1) := Nat.pow_lt_pow_right (by decide) (by omega)
          refine inner 8 0 N κ δ ε nx ky so en tb' li' Y (G ||| y) _ _ (by omega) hz hj (Nat.or_lt_two_pow (by omega) (by rcases hy with ⟨rfl, -⟩ | ⟨rfl, -⟩ <;> omega)) (fun i hi => ?_) e1 e2 e3 e4 hf
          rw [Nat.testBit_or]
          by_cases z : i = k
          · subst z
            rw [Nat.testBit_lt_two_pow hG1, Bool.false_or]
            rcases hy with ⟨rfl, hf'⟩ | ⟨rfl, ht'⟩
            · rw [Nat.zero_testBit, hf']
            · rw [Nat.testBit_two_pow_self, ht']
          · rw [hG2 i (by omega)]
            rcases hy with ⟨rfl, -⟩ | ⟨rfl, -⟩
            · rw [Nat.zero_testBit, Bool.or_false]
            · rw [Nat.testBit_two_pow_of_ne (fun q => z q.symm), Bool.or_false]
        refine kn_if_eq hB M_write_44 (by cases acc (κ k) <;> decide) (fun hz2 => ?_) (fun hz2 => ?_)
        · refine kw_iconst hB M_write_54 (v := nI 0) (by decide) ?_
          exact tail 0 (Or.inl ⟨rfl, jb_f hz2⟩)
        · refine kw_iconst hB M_write_47 (v := nI 1) (by decide) ?_
          refine kw_iload hB M_write_48 rfl ?_
          refine kw_ishl hB M_write_50 ?_
          rw [jb_shl (by omega) (by have : 2 ^ k ≤ 2 ^ 24 := Nat.pow_le_pow_right (by decide) (by omega); omega), Nat.one_mul]
          refine kw_goto hB M_write_51 ?_
          exact tail _ (Or.inr ⟨rfl, jb_t hz2⟩)
  obtain ⟨hk1, -, -⟩ := hX X s st gd tb h.tr hs (fun _ _ => rfl) (fun _ _ => rfl) (fun _ _ => rfl)
  refine kw_iconst hB M_write_0 (v := nI 1) (by decide) ?_
  refine kw_istore_n hB M_write_1 rfl (by decide) rfl ?_
  refine kw_iconst hB M_write_2 (v := nI 0) (by decide) ?_
  refine kw_istore_n hB M_write_3 rfl (by decide) rfl ?_
  refine kw_aload_n hB M_write_4 rfl ?_
  refine kw_getf hB M_write_5 f_M_53 h.1 rfl ?_
  refine kw_iconst hB M_write_8 (v := nI 0) (by decide) ?_
  refine kw_aload_n hB M_write_9 rfl ?_
  refine kw_getf hB M_write_10 f_M_68 h.1 rfl ?_
  refine kw_aload_n hB M_write_13 rfl ?_
  refine kw_aload_n hB M_write_14 rfl ?_
  refine kw_callV hB M_write_15 s_M_170 im_M_first se_M_first h.1 rfl rfl (As := []) (hk1) rfl (by decide) (Nat.le_of_ble_eq_true rfl) (by omega) (by omega) (fun r X1 hq hl => ?_)
  obtain ⟨rfl, hxeq⟩ := hq
  obtain rfl := hxeq.symm
  refine kw_callV hB M_write_18 s_M_189 im_M_classOf se_M_classOf h.1 rfl rfl (As := [.int (nI fi)]) (c_M_classOf l D g h hm c1 (v2 _ v0)) rfl (by decide) (Nat.le_of_ble_eq_true rfl) (by omega) (by omega) (fun r X1 hq hl => ?_)
  rcases hq with ⟨cc, hcc, hce, -, rfl, hxe⟩ | ⟨hno, -⟩
  rotate_left
  · exact absurd hno (never _ fik)
  obtain rfl := hxe.symm
  have hcc' := find _ cc fik hcc hce
  subst hcc'
  refine kn_iald hB M_write_21 h.2.2.2.2.2.2.2.2.2 rfl (by omega) (by decide) ?_
  rw [(c2 _ fc1).1]
  refine kn_iast hB M_write_22 h.2.2.2.2.1 rfl (by decide) (by decide) ?_
  refine kw_iconst hB M_write_23 (v := nI 0) (by decide) ?_
  refine kw_istore hB M_write_24 (by decide) rfl ?_
  refine outer 24 0 1 0 (fun _ => rp (cl fi)) (fun _ => 0) (fun _ => 0) (fun _ => 0) (fun _ => nI (rp (cl fi))) (upd (fun _ => -1) (rp (cl fi)) (nI 0)) (fun _ => 0) tb _ _ _ _ _ (by omega) (by omega) ⟨by omega, rfl, fun _ _ => ⟨_, fc1, rfl⟩, fun i j hi hj _ => by omega, fun _ _ => rfl, fun j hj => by rw [pk_us, show j = 0 by omega], fun k hk hno => pk_un (fun z => hno 0 (by omega) z.symm), fun s hs => absurd hs (by omega), fun j h1 h2 => by omega, by omega⟩ (by decide) (fun i hi => absurd hi (by omega)) (h.s_li (f' := upd li 0 (nI (rp (cl fi))))) (fun _ _ => rfl) (fun i hi => absurd hi (by omega)) (fun i hi => by rw [show i = 0 by omega, pk_us]) (fS _ 160 _ (by decide))
end JMW
