-- the model: the rules STRIP, FOLD
theorem jQs_bit (x : Nat → Nat) (S c r : Nat) : ∀ m, (jQs x S c m).testBit r = true ↔ ∃ q, q < m ∧ S.testBit q = true ∧ x (q * 8 + c - 1) = r
  | 0 => by
    rw [jQs, Nat.zero_testBit]
    exact ⟨fun z => (by cases z), fun ⟨q, hq, _⟩ => absurd hq (by omega)⟩
  | m + 1 => by
    have ih := jQs_bit x S c r m
    rw [jQs]
    cases hb : S.testBit m with
    | false =>
      rw [if_neg (by decide), ih]
      constructor
      · rintro ⟨q, q1, q2⟩; exact ⟨q, by omega, q2⟩
      · rintro ⟨q, q1, q2, q3⟩
        by_cases z : q = m
        · subst z; rw [hb] at q2; cases q2
        · exact ⟨q, by omega, q2, q3⟩
    | true =>
      rw [if_pos rfl, Nat.testBit_or, Bool.or_eq_true, ih, Nat.testBit_two_pow]
      constructor
      · rintro (⟨q, q1, q2⟩ | z)
        · exact ⟨q, by omega, q2⟩
        · exact ⟨m, by omega, hb, of_decide_eq_true z⟩
      · rintro ⟨q, q1, q2, q3⟩
        by_cases z : q = m
        · subst z; exact Or.inr (decide_eq_true q3)
        · exact Or.inl ⟨q, by omega, q2, q3⟩
theorem jlast_ex : ∀ v : List Nat, v ≠ [] → ∃ u c, v = u ++ [c]
  | [], h => absurd rfl h
  | [a], _ => ⟨[], a, rfl⟩
  | a :: b :: v, _ => by
    obtain ⟨u, c, e⟩ := jlast_ex (b :: v) (by simp)
    exact ⟨a :: u, c, by rw [e]; rfl⟩
/-- a set with what letters 5 and 6 lead to, k times -/
def jcz (x : Nat → Nat) (n S : Nat) : Nat → Nat
  | 0 => S
  | k + 1 => jcz x n S k ||| (jQs x (jcz x n S k) 5 n ||| jQs x (jcz x n S k) 6 n)
theorem jcz_lt {x : Nat → Nat} {n S : Nat} (hx : ∀ i, i < n * 8 → x i < n) (hS : S < 2 ^ n) : ∀ k, jcz x n S k < 2 ^ n
  | 0 => hS
  | k + 1 => Nat.or_lt_two_pow (jcz_lt hx hS k) (Nat.or_lt_two_pow (jQs_lt (fun q hq => hx _ (by omega)) n (Nat.le_refl _)) (jQs_lt (fun q hq => hx _ (by omega)) n (Nat.le_refl _)))
theorem jsw1 {c : Nat} : (c < 8 ∧ jimg (c + 1) 1 = 0) ↔ c = 4 ∨ c = 5 := by
  constructor
  · rintro ⟨h1, h2⟩
    rcases (by omega : c = 0 ∨ c = 1 ∨ c = 2 ∨ c = 3 ∨ c = 4 ∨ c = 5 ∨ c = 6 ∨ c = 7) with rfl | rfl | rfl | rfl | rfl | rfl | rfl | rfl <;> first | exact Or.inl rfl | exact Or.inr rfl | (exact absurd h2 (by decide))
  · rintro (rfl | rfl) <;> exact ⟨by decide, by decide⟩
theorem jcz_bit {x : Nat → Nat} {n S : Nat} (hx : ∀ i, i < n * 8 → x i < n) (hS : S < 2 ^ n) (r : Nat) : ∀ k, (jcz x n S k).testBit r = true ↔ ∃ q v, q < n ∧ S.testBit q = true ∧ jSw (fun i => jimg i 1) v ∧ v.length ≤ k ∧ jgo x q v = r
  | 0 => by
    constructor
    · intro h
      have : r < n := Classical.byContradiction fun hno => by have h : S.testBit r = true := h; rw [jb_one hS hno] at h; cases h
      exact ⟨r, [], this, h, fun _ z => (by cases z), Nat.le_refl _, rfl⟩
    · rintro ⟨q, v, q1, q2, q3, q4, q5⟩
      have : v = [] := List.eq_nil_of_length_eq_zero (by omega)
      subst this
      have q5 : q = r := q5
      subst q5
      exact q2
  | k + 1 => by
    have hx8 : ∀ t, t < 8 * n → x t < n := fun t ht => hx t (by omega)
    have okv : ∀ v, jSw (fun i => jimg i 1) v → jok v := fun v hv c hc => (hv c hc).1
    have one : ∀ c, c = 4 ∨ c = 5 → ((jQs x (jcz x n S k) (c + 1) n).testBit r = true → ∃ q v, q < n ∧ S.testBit q = true ∧ jSw (fun i => jimg i 1) v ∧ v.length ≤ k + 1 ∧ jgo x q v = r) := fun c hc h => by
      obtain ⟨q', a1, a2, a3⟩ := (jQs_bit x _ _ r n).mp h
      obtain ⟨q, v, b1, b2, b3, b4, b5⟩ := (jcz_bit hx hS q' k).mp a2
      refine ⟨q, v ++ [c], b1, b2, fun d hd => ?_, by simp; omega, ?_⟩
      · rcases List.mem_append.mp hd with z | z
        · exact b3 d z
        · rw [List.mem_singleton.mp z]; exact jsw1.mpr hc
      · rw [jgo_app, b5]
        show x (q' * 8 + c) = r
        rw [← a3]; rfl
    rw [jcz, Nat.testBit_or, Nat.testBit_or, Bool.or_eq_true, Bool.or_eq_true]
    constructor
    · rintro (h | h | h)
      · obtain ⟨q, v, b1, b2, b3, b4, b5⟩ := (jcz_bit hx hS r k).mp h
        exact ⟨q, v, b1, b2, b3, by omega, b5⟩
      · exact one 4 (Or.inl rfl) h
      · exact one 5 (Or.inr rfl) h
    · rintro ⟨q, v, b1, b2, b3, b4, b5⟩
      by_cases hl : v.length ≤ k
      · exact Or.inl ((jcz_bit hx hS r k).mpr ⟨q, v, b1, b2, b3, hl, b5⟩)
      · have hne : v ≠ [] := fun z => by rw [z] at hl; exact hl (Nat.zero_le _)
        obtain ⟨u, c, rfl⟩ : ∃ u c, v = u ++ [c] := jlast_ex v hne
        have hu : jSw (fun i => jimg i 1) u := fun d hd => b3 d (List.mem_append.mpr (Or.inl hd))
        have hc : c = 4 ∨ c = 5 := jsw1.mp (b3 c (List.mem_append.mpr (Or.inr (List.mem_singleton.mpr rfl))))
        have hul : u.length ≤ k := by simp at b4; omega
        have hq' := jgo_lt hx8 u q b1 (okv u hu)
        rw [jgo_app] at b5
        have b5 : x (jgo x q u * 8 + c) = r := b5
        have : (jcz x n S k).testBit (jgo x q u) = true := (jcz_bit hx hS _ k).mpr ⟨q, u, b1, b2, hu, hul, rfl⟩
        rcases hc with rfl | rfl
        · exact Or.inr (Or.inl ((jQs_bit x _ _ r n).mpr ⟨_, hq', this, b5⟩))
        · exact Or.inr (Or.inr ((jQs_bit x _ _ r n).mpr ⟨_, hq', this, b5⟩))
/-- every silent way has a short one -/
theorem jshort {mk x : Nat → Nat} {n : Nat} (hx : ∀ i, i < n * 8 → x i < n) {q : Nat} {v : List Nat} (hq : q < n) (hv : jSw mk v) : ∃ v', jSw mk v' ∧ v'.length ≤ n ∧ jgo x q v' = jgo x q v := by
  have ex : ∀ q, ∃ S, S < 2 ^ n ∧ ∀ c, c < n → (S.testBit c = true ↔ ∃ v', jSw mk v' ∧ v'.length ≤ n ∧ jgo x q v' = c) := fun q => jbits_ex _ n
  have hx8 : ∀ t, t < 8 * n → x t < n := fun t ht => hx t (by omega)
  have okv : ∀ v, jSw mk v → jok v := fun v hv c hc => (hv c hc).1
  have := jSclose (s := fun q => Classical.choose (ex q)) hx (fun q w hq hw hl => ((Classical.choose_spec (ex q)).2 _ (jgo_lt hx8 w q hq (okv w hw))).mpr ⟨w, hw, hl, rfl⟩) v.length q v (Nat.le_refl _) hq hv
  exact ((Classical.choose_spec (ex q)).2 _ (jgo_lt hx8 v q hq (okv v hv))).mp this
theorem jcz_all {x : Nat → Nat} {n S : Nat} (hx : ∀ i, i < n * 8 → x i < n) (hS : S < 2 ^ n) (hn : n ≤ 8) (r : Nat) : (jcz x n S 8).testBit r = true ↔ ∃ q v, q < n ∧ S.testBit q = true ∧ jSw (fun i => jimg i 1) v ∧ jgo x q v = r := by
  rw [jcz_bit hx hS r 8]
  constructor
  · rintro ⟨q, v, b1, b2, b3, b4, b5⟩; exact ⟨q, v, b1, b2, b3, b5⟩
  · rintro ⟨q, v, b1, b2, b3, b5⟩
    obtain ⟨v', c1, c2, c3⟩ := jshort hx b1 b3
    exact ⟨q, v', b1, b2, c1, by omega, by rw [c3]; exact b5⟩
/-- the closure of one state: by STRIP's silent letters, or (FOLD) the state alone -/
def jsl' (x : Nat → Nat) (n f q : Nat) : Nat := if f = 1 then jcz x n (2 ^ q) 8 else 2 ^ q
theorem jimg2 {c : Nat} (hc : c < 8) : jimg (c + 1) 2 ≠ 0 := by
  rcases (by omega : c = 0 ∨ c = 1 ∨ c = 2 ∨ c = 3 ∨ c = 4 ∨ c = 5 ∨ c = 6 ∨ c = 7) with rfl | rfl | rfl | rfl | rfl | rfl | rfl | rfl <;> decide
theorem jsl_bit {x : Nat → Nat} {n f q r : Nat} (hx : ∀ i, i < n * 8 → x i < n) (hn : n ≤ 8) (hq : q < n) (hf : f = 1 ∨ f = 2) : (jsl' x n f q).testBit r = true ↔ ∃ v, jSw (fun i => jimg i f) v ∧ jgo x q v = r := by
  unfold jsl'
  have hp : 2 ^ q < 2 ^ n := Nat.pow_lt_pow_right (by decide) hq
  rcases hf with rfl | rfl
  · rw [if_pos rfl, jcz_all hx hp hn r]
    constructor
    · rintro ⟨q', v, a1, a2, a3, a4⟩
      rw [Nat.testBit_two_pow] at a2
      have := of_decide_eq_true a2
      subst this
      exact ⟨v, a3, a4⟩
    · rintro ⟨v, a3, a4⟩
      exact ⟨q, v, hq, Nat.testBit_two_pow_self, a3, a4⟩
  · rw [if_neg (by decide), Nat.testBit_two_pow]
    constructor
    · intro z; exact ⟨[], fun _ z => (by cases z), of_decide_eq_true z⟩
    · rintro ⟨v, a3, a4⟩
      cases v with
      | nil => exact decide_eq_true a4
      | cons c v => exact absurd (a3 c (List.mem_cons_self ..)).2 (jimg2 (a3 c (List.mem_cons_self ..)).1)
theorem jsl_so {x : Nat → Nat} {n f : Nat} (hx : ∀ i, i < n * 8 → x i < n) (hn : n ≤ 8) (hf : f = 1 ∨ f = 2) : jSo (fun i => jimg i f) x n (jsl' x n f) := fun q hq => ⟨by
  have hp : 2 ^ q < 2 ^ n := Nat.pow_lt_pow_right (by decide) hq
  unfold jsl'; split
  · exact jcz_lt hx hp 8
  · exact hp, fun r hr => (jsl_bit hx hn hq hf).mp hr⟩
/-- the words of a function's rule are the images -/
theorem jFn_mk {L : jLan} {f : Nat} (hL : jOk L) (h8 : L.1 ≤ 8) (hf : f = 1 ∨ f = 2) : jMk (fun w => (fun k => decide (k &&& L.2.1 ≠ 0)) (jkr (fun k c => jIn (fun i => jimg i f) (jXf L) (jsl' (jXf L) L.1 f) L.1 k c 8) (jsl' (jXf L) L.1 f 0) w)) = jMk (jFn f L) := by
  have hx : ∀ i, i < L.1 * 8 → jXf L i < L.1 := fun i hi => hL.2.2.2.2.1 i (by omega)
  refine jMk_congr (fun w hw => ?_)
  have key := jIkr hL.2.1 hx (jsl_so hx h8 hf) (fun q w hq hw => (jsl_bit hx h8 hq hf).mpr ⟨w, hw, rfl⟩) _ w rfl hw
  unfold jFn
  rw [if_neg (by omega), Bool.eq_iff_iff]
  show decide (_ &&& L.2.1 ≠ 0) = true ↔ _
  rw [decide_eq_true_iff, Nat.and_comm, jand_bit]
  refine Iff.trans ?_ (@decide_eq_true_iff _ (Classical.propDecidable _)).symm
  constructor
  · rintro ⟨r, h1, h2⟩
    obtain ⟨u, u1, u2, u3⟩ := (key r).mp h2
    exact ⟨u, u1, u2, by unfold jAc; rw [u3]; exact h1⟩
  · rintro ⟨u, u1, u2, u3⟩
    exact ⟨_, u3, (key _).mpr ⟨u, u1, u2, rfl⟩⟩
/-- what the model's next computes for STRIP and FOLD -/
theorem jIn_strip {x : Nat → Nat} {n S c : Nat} (hx : ∀ i, i < n * 8 → x i < n) (hn : n ≤ 8) (h1 : 1 ≤ c) (h8 : c ≤ 8) : jIn (fun i => jimg i 1) x (jsl' x n 1) n S c 8 = if c = 5 ∨ c = 6 then 0 else jcz x n (jQs x S c n) 8 := by
  apply Nat.eq_of_testBit_eq
  intro r
  rw [Bool.eq_iff_iff, jIn_bit]
  by_cases h56 : c = 5 ∨ c = 6
  · rw [if_pos h56, Nat.zero_testBit]
    refine ⟨?_, fun z => (by cases z)⟩
    rintro ⟨i, i1, i2, i3, -⟩
    exfalso
    rcases (by omega : i = 1 ∨ i = 2 ∨ i = 3 ∨ i = 4 ∨ i = 5 ∨ i = 6 ∨ i = 7 ∨ i = 8) with rfl | rfl | rfl | rfl | rfl | rfl | rfl | rfl <;> rcases h56 with rfl | rfl <;> exact absurd i3 (by decide)
  · rw [if_neg h56, jcz_all hx (jQs_lt (fun q hq => hx _ (by omega)) n (Nat.le_refl _)) hn r]
    have mkc : ∀ i, 1 ≤ i → i ≤ 8 → (jimg i 1 = c ↔ i = c) := fun i i1 i2 => by
      rcases (by omega : i = 1 ∨ i = 2 ∨ i = 3 ∨ i = 4 ∨ i = 5 ∨ i = 6 ∨ i = 7 ∨ i = 8) with rfl | rfl | rfl | rfl | rfl | rfl | rfl | rfl <;> (show _ = c ↔ _) <;> first | exact Iff.rfl | (constructor <;> intro z <;> first | (exfalso; have z : 0 = c := z; omega) | (exfalso; omega))
    constructor
    · rintro ⟨i, i1, i2, i3, q, q1, q2, q3⟩
      have := (mkc i i1 i2).mp i3
      subst this
      have hxq := hx (q * 8 + i - 1) (by omega)
      obtain ⟨v, v1, v2⟩ := (jsl_bit hx hn hxq (Or.inl rfl)).mp q3
      exact ⟨_, v, hxq, (jQs_bit x S i _ n).mpr ⟨q, q1, q2, rfl⟩, v1, v2⟩
    · rintro ⟨q', v, a1, a2, a3, a4⟩
      obtain ⟨q, b1, b2, b3⟩ := (jQs_bit x S c q' n).mp a2
      refine ⟨c, h1, h8, (mkc c h1 h8).mpr rfl, q, b1, b2, ?_⟩
      rw [b3]
      exact (jsl_bit hx hn a1 (Or.inl rfl)).mpr ⟨v, a3, a4⟩
theorem jIn_fold {x : Nat → Nat} {n S c : Nat} (h1 : 1 ≤ c) (h8 : c ≤ 8) : jIn (fun i => jimg i 2) x (jsl' x n 2) n S c 8 = if 4 < c then jQs x S c n else if c < 3 then 0 else jQs x S c n ||| jQs x S (c - 2) n := by
  have sl : ∀ q r, (jsl' x n 2 q).testBit r = true ↔ q = r := fun q r => by
    unfold jsl'
    rw [if_neg (by decide), Nat.testBit_two_pow, decide_eq_true_iff]
  have mkc : ∀ i, 1 ≤ i → i ≤ 8 → (jimg i 2 = c ↔ (i = c ∧ 3 ≤ c) ∨ (i + 2 = c ∧ (c = 3 ∨ c = 4))) := fun i i1 i2 => by
    rcases (by omega : i = 1 ∨ i = 2 ∨ i = 3 ∨ i = 4 ∨ i = 5 ∨ i = 6 ∨ i = 7 ∨ i = 8) with rfl | rfl | rfl | rfl | rfl | rfl | rfl | rfl
    · show 3 = c ↔ _; omega
    · show 4 = c ↔ _; omega
    · show 3 = c ↔ _; omega
    · show 4 = c ↔ _; omega
    · show 5 = c ↔ _; omega
    · show 6 = c ↔ _; omega
    · show 7 = c ↔ _; omega
    · show 8 = c ↔ _; omega
  apply Nat.eq_of_testBit_eq
  intro r
  rw [Bool.eq_iff_iff, jIn_bit]
  have fwd : ∀ i, (∃ q, q < n ∧ S.testBit q = true ∧ (jsl' x n 2 (x (q * 8 + i - 1))).testBit r = true) ↔ (jQs x S i n).testBit r = true := fun i => by
    rw [jQs_bit]
    constructor
    · rintro ⟨q, q1, q2, q3⟩; exact ⟨q, q1, q2, (sl _ _).mp q3⟩
    · rintro ⟨q, q1, q2, q3⟩; exact ⟨q, q1, q2, (sl _ _).mpr q3⟩
  by_cases h4 : 4 < c
  · rw [if_pos h4]
    constructor
    · rintro ⟨i, i1, i2, i3, hh⟩
      have : i = c := by have := (mkc i i1 i2).mp i3; omega
      subst this
      exact (fwd i).mp hh
    · intro z; exact ⟨c, h1, h8, (mkc c h1 h8).mpr (Or.inl ⟨rfl, by omega⟩), (fwd c).mpr z⟩
  · rw [if_neg h4]
    by_cases h3 : c < 3
    · rw [if_pos h3, Nat.zero_testBit]
      refine ⟨?_, fun z => (by cases z)⟩
      rintro ⟨i, i1, i2, i3, -⟩
      have := (mkc i i1 i2).mp i3
      omega
    · rw [if_neg h3, Nat.testBit_or, Bool.or_eq_true]
      constructor
      · rintro ⟨i, i1, i2, i3, hh⟩
        rcases (mkc i i1 i2).mp i3 with ⟨rfl, -⟩ | ⟨z, -⟩
        · exact Or.inl ((fwd i).mp hh)
        · refine Or.inr ?_
          rw [show c - 2 = i by omega]
          exact (fwd i).mp hh
      · rintro (z | z)
        · exact ⟨c, h1, h8, (mkc c h1 h8).mpr (Or.inl ⟨rfl, by omega⟩), (fwd c).mpr z⟩
        · exact ⟨c - 2, by omega, by omega, (mkc (c - 2) (by omega) (by omega)).mpr (Or.inr ⟨by omega, by omega⟩), (fwd (c - 2)).mpr z⟩
section JML3
variable (l : Launch) (D : va_G) (g : Nat × Nat) {X : ja_H} {s st gd tb : Nat → Int32}
set_option maxHeartbeats 4000000 in
set_option maxRecDepth 100000 in
theorem c_M_closed {p S : Nat} {L : jLan} (h : jTr X s st gd tb) (hp : s 19 = nI p) (hp43 : p < 43) (hL : jAt st gd tb p L) (h8 : L.1 ≤ 8) (hS : S < 2 ^ L.1) : AMet l D g 2 0 0 m_M_closed [.ref 145, .int (nI S)] X (fun r X' => r = some (.int (nI (jcz (jXf L) L.1 S 8))) ∧ X' = X) := by
  have hx : ∀ i, i < L.1 * 8 → jXf L i < L.1 := fun i hi => hL.1.2.2.2.2.1 i (by omega)
  have small : ∀ k, jcz (jXf L) L.1 S k < 2 ^ 31 := fun k => Nat.lt_of_lt_of_le (jcz_lt hx hS k) (Nat.pow_le_pow_right (by decide) (by omega))
  refine ja_metK (by decide) rfl (Nat.le_of_ble_eq_true rfl) fun K hB hF => ?_
  have loop : ∀ q k, k + q = 8 → K 4 [.ref 145, .int (nI S), .int (nI (jcz (jXf L) L.1 S k)), .int (nI k)] [] X 0 0 := by
    intro q
    induction q with
    | zero =>
      intro k hk
      refine kw_iload_n hB M_closed_4 rfl ?_
      refine kw_bipush hB M_closed_5 (v := nI 8) (by decide) ?_
      refine kn_icmp_ge hB M_closed_7 (by omega) (by decide) (fun _ => ?_) (fun z => absurd z (by omega))
      refine kw_iload_n hB M_closed_41 rfl ?_
      refine kw_iret hF rfl M_closed_42 ?_ (by first | (simp [jLs_len]; done) | (simp [*]; done))
      exact ⟨by rw [show k = 8 by omega], rfl⟩
    | succ q ih =>
      intro k hk
      refine kw_iload_n hB M_closed_4 rfl ?_
      refine kw_bipush hB M_closed_5 (v := nI 8) (by decide) ?_
      refine kn_icmp_ge hB M_closed_7 (by omega) (by decide) (fun z => absurd z (by omega)) (fun _ => ?_)
      refine kw_iload_n hB M_closed_10 rfl ?_
      refine kw_aload_n hB M_closed_11 rfl ?_
      refine kw_aload_n hB M_closed_12 rfl ?_
      refine kw_getf hB M_closed_13 f_M_123 h.1 rfl ?_
      refine kw_iload_n hB M_closed_16 rfl ?_
      refine kw_iconst hB M_closed_17 (v := nI 5) (by decide) ?_
      rw [hp]
      refine kw_callV hB M_closed_18 s_M_126 im_M_after se_M_after h.1 rfl rfl (As := [.int (nI p), .int (nI (jcz (jXf L) L.1 S k)), .int (nI 5)]) (c_M_after l D g h hL hp43 (small k) (by decide) (by decide)) rfl (by decide) (Nat.le_of_ble_eq_true rfl) (by omega) (by omega) (fun r X1 hq hl => ?_)
      obtain ⟨rfl, hxeq⟩ := hq
      obtain rfl := hxeq.symm
      refine kw_aload_n hB M_closed_21 rfl ?_
      refine kw_aload_n hB M_closed_22 rfl ?_
      refine kw_getf hB M_closed_23 f_M_123 h.1 rfl ?_
      refine kw_iload_n hB M_closed_26 rfl ?_
      refine kw_bipush hB M_closed_27 (v := nI 6) (by decide) ?_
      rw [hp]
      refine kw_callV hB M_closed_29 s_M_126 im_M_after se_M_after h.1 rfl rfl (As := [.int (nI p), .int (nI (jcz (jXf L) L.1 S k)), .int (nI 6)]) (c_M_after l D g h hL hp43 (small k) (by decide) (by decide)) rfl (by decide) (Nat.le_of_ble_eq_true rfl) (by omega) (by omega) (fun r X1 hq hl => ?_)
      obtain ⟨rfl, hxeq⟩ := hq
      obtain rfl := hxeq.symm
      refine kn_ior hB M_closed_32 ?_
      refine kn_ior hB M_closed_33 ?_
      refine kw_istore_n hB M_closed_34 rfl (by decide) rfl ?_
      refine kn_iinc hB M_closed_35 rfl (by decide) rfl ?_
      refine kw_goto hB M_closed_38 ?_
      exact ih (k + 1) (by omega)
  refine kw_iload_n hB M_closed_0 rfl ?_
  refine kw_istore_n hB M_closed_1 rfl (by decide) rfl ?_
  refine kw_iconst hB M_closed_2 (v := nI 0) (by decide) ?_
  refine kw_istore_n hB M_closed_3 rfl (by decide) rfl ?_
  exact loop 8 0 (by omega)
set_option maxHeartbeats 4000000 in
set_option maxRecDepth 100000 in
theorem c_M_folded {p S c : Nat} {L : jLan} (h : jTr X s st gd tb) (hp : s 19 = nI p) (hp43 : p < 43) (hL : jAt st gd tb p L) (hS : S < 2 ^ 31) (h1 : 1 ≤ c) (h8 : c ≤ 8) : AMet l D g 2 0 0 m_M_folded [.ref 145, .int (nI S), .int (nI c)] X (fun r X' => r = some (.int (nI (if 4 < c then jQs (jXf L) S c L.1 else if c < 3 then 0 else jQs (jXf L) S c L.1 ||| jQs (jXf L) S (c - 2) L.1))) ∧ X' = X) := by
  refine ja_metK (by decide) rfl (Nat.le_of_ble_eq_true rfl) fun K hB hF => ?_
  refine kw_iload_n hB M_folded_0 rfl ?_
  refine kw_iconst hB M_folded_1 (v := nI 4) (by decide) ?_
  refine kn_icmp_le hB M_folded_2 (by omega) (by decide) (fun hc => ?_) (fun hc => ?_)
  · rw [if_neg (by omega)] at hF
    refine kw_iload_n hB M_folded_16 rfl ?_
    refine kw_iconst hB M_folded_17 (v := nI 3) (by decide) ?_
    refine kn_icmp_ge hB M_folded_18 (by omega) (by decide) (fun hc2 => ?_) (fun hc2 => ?_)
    · rw [if_neg (by omega)] at hF
      refine kw_aload_n hB M_folded_25 rfl ?_
      refine kw_aload_n hB M_folded_26 rfl ?_
      refine kw_getf hB M_folded_27 f_M_123 h.1 rfl ?_
      refine kw_iload_n hB M_folded_30 rfl ?_
      refine kw_iload_n hB M_folded_31 rfl ?_
      rw [hp]
      refine kw_callV hB M_folded_32 s_M_126 im_M_after se_M_after h.1 rfl rfl (As := [.int (nI p), .int (nI S), .int (nI c)]) (c_M_after l D g h hL hp43 hS h1 h8) rfl (by decide) (Nat.le_of_ble_eq_true rfl) (by omega) (by omega) (fun r X1 hq hl => ?_)
      obtain ⟨rfl, hxeq⟩ := hq
      obtain rfl := hxeq.symm
      refine kw_aload_n hB M_folded_35 rfl ?_
      refine kw_aload_n hB M_folded_36 rfl ?_
      refine kw_getf hB M_folded_37 f_M_123 h.1 rfl ?_
      refine kw_iload_n hB M_folded_40 rfl ?_
      refine kw_iload_n hB M_folded_41 rfl ?_
      refine kw_iconst hB M_folded_42 (v := nI 2) (by decide) ?_
      refine kn_isub hB M_folded_43 (by omega) ?_
      rw [hp]
      refine kw_callV hB M_folded_44 s_M_126 im_M_after se_M_after h.1 rfl rfl (As := [.int (nI p), .int (nI S), .int (nI (c - 2))]) (c_M_after l D g h hL hp43 hS (by omega) (by omega)) rfl (by decide) (Nat.le_of_ble_eq_true rfl) (by omega) (by omega) (fun r X1 hq hl => ?_)
      obtain ⟨rfl, hxeq⟩ := hq
      obtain rfl := hxeq.symm
      refine kn_ior hB M_folded_47 ?_
      refine kw_iret hF rfl M_folded_48 ⟨rfl, rfl⟩ (by simp)
    · rw [if_pos hc2] at hF
      refine kw_iconst hB M_folded_21 (v := nI 0) (by decide) ?_
      refine kw_goto hB M_folded_22 ?_
      refine kw_iret hF rfl M_folded_48 ⟨rfl, rfl⟩ (by simp)
  · rw [if_pos hc] at hF
    refine kw_aload_n hB M_folded_5 rfl ?_
    refine kw_aload_n hB M_folded_6 rfl ?_
    refine kw_getf hB M_folded_7 f_M_123 h.1 rfl ?_
    refine kw_iload_n hB M_folded_10 rfl ?_
    refine kw_iload_n hB M_folded_11 rfl ?_
    rw [hp]
    refine kw_callV hB M_folded_12 s_M_126 im_M_after se_M_after h.1 rfl rfl (As := [.int (nI p), .int (nI S), .int (nI c)]) (c_M_after l D g h hL hp43 hS h1 h8) rfl (by decide) (Nat.le_of_ble_eq_true rfl) (by omega) (by omega) (fun r X1 hq hl => ?_)
    obtain ⟨rfl, hxeq⟩ := hq
    obtain rfl := hxeq.symm
    refine kw_iret hF rfl M_folded_15 ⟨rfl, rfl⟩ (by simp)
set_option maxHeartbeats 4000000 in
set_option maxRecDepth 100000 in
theorem jRu_FN {p f : Nat} {L : jLan} (hf : f = 1 ∨ f = 2) (hw : s 18 = nI f) (hp : s 19 = nI p) (hp43 : p < 43) (hp41 : p ≠ 41) (hL : jAt st gd tb p L) (h8L : L.1 ≤ 8) : jRu l D g (fun k => k < 2 ^ L.1) (jsl' (jXf L) L.1 f 0) (fun k c => jIn (fun i => jimg i f) (jXf L) (jsl' (jXf L) L.1 f) L.1 k c 8) (fun k => decide (k &&& L.2.1 ≠ 0)) s st gd tb := by
  have h1' := hL.1.2.1
  have hx : ∀ i, i < L.1 * 8 → jXf L i < L.1 := fun i hi => hL.1.2.2.2.2.1 i (by omega)
  have hso := jsl_so hx h8L hf
  have h256 : ∀ k, k < 2 ^ L.1 → k < 256 := fun k hk => Nat.lt_of_lt_of_le hk (Nat.pow_le_pow_right (n := 2) (by decide) h8L)
  have hG : L.2.1 < 2 ^ 24 := Nat.lt_of_lt_of_le hL.1.2.2.2.1 (Nat.pow_le_pow_right (by decide) hL.1.2.2.1)
  refine ⟨(hso 0 (by omega)).1, fun k c hk h1 h8 => jIn_lt hx (fun q hq => (hso q hq).1), fun k hk => by have := h256 k hk; omega, fun X s' st' gd' tb' h hs e1 e2 e3 => ?_⟩
  have hw' := (hs 18 (by decide) (by decide)).trans hw
  have hp' := (hs 19 (by decide) (by decide)).trans hp
  have hL' := hL.mv hp41 e1 e2 e3
  have h2n : 1 < 2 ^ L.1 := by have : 2 ^ 1 ≤ 2 ^ L.1 := Nat.pow_le_pow_right (by decide) h1'; omega
  refine ⟨?_, fun k hk => ?_, fun k c hk h1 h8 => ?_⟩
  · refine ja_metK (by decide) rfl (Nat.le_of_ble_eq_true rfl) fun K hB hF => ?_
    rcases hf with rfl | rfl
    · refine kw_aload_n hB M_first_0 rfl ?_
      refine kw_getf hB M_first_1 f_M_132 h.1 rfl ?_
      rw [hw']
      refine kw_iconst hB M_first_4 (v := nI 1) (by decide) ?_
      refine kn_icmp_ne hB M_first_5 (by decide) (by decide) (fun z => absurd rfl z) (fun _ => ?_)
      -- now at 8
      refine kw_aload_n hB M_first_8 rfl ?_
      refine kw_iconst hB M_first_9 (v := nI 1) (by decide) ?_
      refine kw_callV hB M_first_10 s_M_135 im_M_closed se_M_closed h.1 rfl rfl (As := [.int (nI 1)]) (c_M_closed l D g h hp' hp43 hL' h8L h2n) rfl (by decide) (Nat.le_of_ble_eq_true rfl) (by omega) (by omega) (fun r X1 hq hl => ?_)
      obtain ⟨rfl, hxeq⟩ := hq
      obtain rfl := hxeq.symm
      refine kw_iret hF rfl M_first_13 ⟨rfl, rfl⟩ (by simp)
    · refine kw_aload_n hB M_first_0 rfl ?_
      refine kw_getf hB M_first_1 f_M_132 h.1 rfl ?_
      rw [hw']
      refine kw_iconst hB M_first_4 (v := nI 1) (by decide) ?_
      refine kn_icmp_ne hB M_first_5 (by decide) (by decide) (fun _ => ?_) (fun z => absurd z (by decide))
      refine kw_aload_n hB M_first_14 rfl ?_
      refine kw_getf hB M_first_15 f_M_132 h.1 rfl ?_
      rw [hw']
      refine kw_iconst hB M_first_18 (v := nI 2) (by decide) ?_
      refine kn_icmp_ne hB M_first_19 (by decide) (by decide) (fun z => absurd rfl z) (fun _ => ?_)
      -- now at 22
      refine kw_iconst hB M_first_22 (v := nI 1) (by decide) ?_
      refine kw_iret hF rfl M_first_23 ?_ (by first | (simp [jLs_len]; done) | (simp [*]; done))
      exact ⟨rfl, rfl⟩
  · refine ja_metK (by decide) rfl (Nat.le_of_ble_eq_true rfl) fun K hB hF => ?_
    have tail : K 55 [.ref 145, .int (nI k)] [] X 0 0 := by
      refine kw_iload_n hB M_mayEnd_55 rfl ?_
      refine kw_aload_n hB M_mayEnd_56 rfl ?_
      refine kw_getf hB M_mayEnd_57 f_M_40 h.1 rfl ?_
      refine kw_aload_n hB M_mayEnd_60 rfl ?_
      refine kw_getf hB M_mayEnd_61 f_M_123 h.1 rfl ?_
      rw [hp']
      refine kn_iald hB M_mayEnd_64 h.2.2.1 rfl hp43 (by decide) ?_
      rw [hL'.2.2.1]
      refine kn_iand hB M_mayEnd_65 ?_
      have hlt : k &&& L.2.1 < 2 ^ 31 := by have : k &&& L.2.1 ≤ k := Nat.and_le_left; have := h256 k hk; omega
      refine kn_if_eq hB M_mayEnd_66 (by omega) (fun z => ?_) (fun z => ?_)
      · refine kw_iconst hB M_mayEnd_73 (v := nI 0) (by decide) ?_
        refine kw_zret hF rfl (by first | rfl | decide) M_mayEnd_74 ?_ (by first | (simp [jLs_len]; done) | (simp [*]; done))
        exact ⟨by show _ = some (Value.int (nI (decide (k &&& L.2.1 ≠ 0)).toNat)); rw [decide_eq_false (fun q => q z)]; rfl, rfl⟩
      · refine kw_iconst hB M_mayEnd_69 (v := nI 1) (by decide) ?_
        refine kw_goto hB M_mayEnd_70 ?_
        refine kw_zret hF rfl (by first | rfl | decide) M_mayEnd_74 ?_ (by first | (simp [jLs_len]; done) | (simp [*]; done))
        exact ⟨by show _ = some (Value.int (nI (decide (k &&& L.2.1 ≠ 0)).toNat)); rw [decide_eq_true z]; rfl, rfl⟩
    rcases hf with rfl | rfl
    · refine kw_aload_n hB M_mayEnd_0 rfl ?_
      refine kw_getf hB M_mayEnd_1 f_M_132 h.1 rfl ?_
      rw [hw']
      refine kn_if_ne hB M_mayEnd_4 (by decide) (fun _ => ?_) (fun z => absurd z (by decide))
      refine kw_aload_n hB M_mayEnd_39 rfl ?_
      refine kw_getf hB M_mayEnd_40 f_M_132 h.1 rfl ?_
      rw [hw']
      refine kw_iconst hB M_mayEnd_43 (v := nI 1) (by decide) ?_
      refine kn_icmp_eq hB M_mayEnd_44 (by decide) (by decide) (fun _ => ?_) (fun z => absurd rfl z)
      -- now at 55
      exact tail
    · refine kw_aload_n hB M_mayEnd_0 rfl ?_
      refine kw_getf hB M_mayEnd_1 f_M_132 h.1 rfl ?_
      rw [hw']
      refine kn_if_ne hB M_mayEnd_4 (by decide) (fun _ => ?_) (fun z => absurd z (by decide))
      refine kw_aload_n hB M_mayEnd_39 rfl ?_
      refine kw_getf hB M_mayEnd_40 f_M_132 h.1 rfl ?_
      rw [hw']
      refine kw_iconst hB M_mayEnd_43 (v := nI 1) (by decide) ?_
      refine kn_icmp_eq hB M_mayEnd_44 (by decide) (by decide) (fun z => absurd z (by decide)) (fun _ => ?_)
      refine kw_aload_n hB M_mayEnd_47 rfl ?_
      refine kw_getf hB M_mayEnd_48 f_M_132 h.1 rfl ?_
      rw [hw']
      refine kw_iconst hB M_mayEnd_51 (v := nI 2) (by decide) ?_
      refine kn_icmp_ne hB M_mayEnd_52 (by decide) (by decide) (fun z => absurd rfl z) (fun _ => ?_)
      -- now at 55
      exact tail
  · refine ja_metK (by decide) rfl (Nat.le_of_ble_eq_true rfl) fun K hB hF => ?_
    have hk31 : k < 2 ^ 31 := by have := h256 k hk; omega
    rcases hf with rfl | rfl
    · have e := jIn_strip (S := k) hx h8L h1 h8
      have hF := hF
      rw [show (fun k c => jIn (fun i => jimg i 1) (jXf L) (jsl' (jXf L) L.1 1) L.1 k c 8) k c = if c = 5 ∨ c = 6 then 0 else jcz (jXf L) L.1 (jQs (jXf L) k c L.1) 8 from e] at hF
      refine kw_aload_n hB M_next_0 rfl ?_
      refine kw_getf hB M_next_1 f_M_132 h.1 rfl ?_
      rw [hw']
      refine kn_if_ne hB M_next_4 (by decide) (fun _ => ?_) (fun z => absurd z (by decide))
      refine kw_aload_n hB M_next_14 rfl ?_
      refine kw_getf hB M_next_15 f_M_132 h.1 rfl ?_
      rw [hw']
      refine kw_iconst hB M_next_18 (v := nI 1) (by decide) ?_
      refine kn_icmp_ne hB M_next_19 (by decide) (by decide) (fun z => absurd rfl z) (fun _ => ?_)
      -- now at 22
      have zero : (c = 5 ∨ c = 6) → K 33 (ja_args 4 [.ref 145, .int (nI k), .int (nI c)]) [] X 0 0 := by
        intro h56
        rw [if_pos h56] at hF
        show K 33 [.ref 145, .int (nI k), .int (nI c), .retAddr 0] [] X 0 0
        refine kw_iconst hB M_next_33 (v := nI 0) (by decide) ?_
        refine kw_goto hB M_next_34 ?_
        refine kw_iret hF rfl M_next_51 ⟨rfl, rfl⟩ (by simp)
      refine kw_iload_n hB M_next_22 rfl ?_
      refine kw_iconst hB M_next_23 (v := nI 5) (by decide) ?_
      refine kn_icmp_eq hB M_next_24 (by omega) (by decide) (fun z => zero (Or.inl z)) (fun z => ?_)
      refine kw_iload_n hB M_next_27 rfl ?_
      refine kw_bipush hB M_next_28 (v := nI 6) (by decide) ?_
      refine kn_icmp_ne hB M_next_30 (by omega) (by decide) (fun z2 => ?_) (fun z2 => zero (Or.inr z2))
      rw [if_neg (by omega)] at hF
      refine kw_aload_n hB M_next_37 rfl ?_
      refine kw_aload_n hB M_next_38 rfl ?_
      refine kw_aload_n hB M_next_39 rfl ?_
      refine kw_getf hB M_next_40 f_M_123 h.1 rfl ?_
      refine kw_iload_n hB M_next_43 rfl ?_
      refine kw_iload_n hB M_next_44 rfl ?_
      rw [hp']
      refine kw_callV hB M_next_45 s_M_126 im_M_after se_M_after h.1 rfl rfl (As := [.int (nI p), .int (nI k), .int (nI c)]) (c_M_after l D g h hL' hp43 hk31 h1 h8) rfl (by decide) (Nat.le_of_ble_eq_true rfl) (by omega) (by omega) (fun r X1 hq hl => ?_)
      obtain ⟨rfl, hxeq⟩ := hq
      obtain rfl := hxeq.symm
      refine kw_callV hB M_next_48 s_M_135 im_M_closed se_M_closed h.1 rfl rfl (As := [.int (nI (jQs (jXf L) k c L.1))]) (c_M_closed l D g h hp' hp43 hL' h8L (jQs_lt (fun q hq => hx _ (by omega)) L.1 (Nat.le_refl _))) rfl (by decide) (Nat.le_of_ble_eq_true rfl) (by omega) (by omega) (fun r X1 hq hl => ?_)
      obtain ⟨rfl, hxeq⟩ := hq
      obtain rfl := hxeq.symm
      refine kw_iret hF rfl M_next_51 ⟨rfl, rfl⟩ (by simp)
    · have e := jIn_fold (x := jXf L) (n := L.1) (S := k) h1 h8
      have hF := hF
      rw [show (fun k c => jIn (fun i => jimg i 2) (jXf L) (jsl' (jXf L) L.1 2) L.1 k c 8) k c = if 4 < c then jQs (jXf L) k c L.1 else if c < 3 then 0 else jQs (jXf L) k c L.1 ||| jQs (jXf L) k (c - 2) L.1 from e] at hF
      refine kw_aload_n hB M_next_0 rfl ?_
      refine kw_getf hB M_next_1 f_M_132 h.1 rfl ?_
      rw [hw']
      refine kn_if_ne hB M_next_4 (by decide) (fun _ => ?_) (fun z => absurd z (by decide))
      refine kw_aload_n hB M_next_14 rfl ?_
      refine kw_getf hB M_next_15 f_M_132 h.1 rfl ?_
      rw [hw']
      refine kw_iconst hB M_next_18 (v := nI 1) (by decide) ?_
      refine kn_icmp_ne hB M_next_19 (by decide) (by decide) (fun _ => ?_) (fun z => absurd z (by decide))
      refine kw_aload_n hB M_next_52 rfl ?_
      refine kw_getf hB M_next_53 f_M_132 h.1 rfl ?_
      rw [hw']
      refine kw_iconst hB M_next_56 (v := nI 2) (by decide) ?_
      refine kn_icmp_ne hB M_next_57 (by decide) (by decide) (fun z => absurd rfl z) (fun _ => ?_)
      -- now at 60
      refine kw_aload_n hB M_next_60 rfl ?_
      refine kw_iload_n hB M_next_61 rfl ?_
      refine kw_iload_n hB M_next_62 rfl ?_
      refine kw_callV hB M_next_63 s_M_152 im_M_folded se_M_folded h.1 rfl rfl (As := [.int (nI k), .int (nI c)]) (c_M_folded l D g h hp' hp43 hL' hk31 h1 h8) rfl (by decide) (Nat.le_of_ble_eq_true rfl) (by omega) (by omega) (fun r X1 hq hl => ?_)
      obtain ⟨rfl, hxeq⟩ := hq
      obtain rfl := hxeq.symm
      refine kw_iret hF rfl M_next_66 ⟨rfl, rfl⟩ (by simp)
end JML3
