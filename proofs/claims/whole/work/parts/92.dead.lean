-- on a dead way all variables have the empty language, on another one none has
def jAon (nw : Nat → jLan) : Prop := (∀ v, v < 5 → nw v = jEmp) ∨ ∀ v, v < 5 → nw v ≠ jEmp
theorem jEmp_ac (w : List Nat) : jAc jEmp w = false := Nat.zero_testBit _
theorem jne_ex {L : jLan} (h : jOk L) (hne : L ≠ jEmp) : ∃ w, jok w ∧ jAc L w = true := Classical.byContradiction fun hno => hne (h.ext jEmp_ok (fun w hw => by
  rw [jEmp_ac]
  cases hb : jAc L w with
  | false => rfl
  | true => exact absurd ⟨w, hw, hb⟩ hno))
theorem jMk_ne {P : List Nat → Bool} {w : List Nat} (hw : jok w) (hP : P w = true) : jMk P ≠ jEmp := fun z => by
  have := jMk_sup hw hP
  rw [z, jEmp_ac] at this
  cases this
theorem jMk_emp {P : List Nat → Bool} (h : ∀ w, jok w → P w = false) : jMk P = jEmp := by
  rw [← jMk_ac jEmp_ok]
  exact jMk_congr (fun w hw => by rw [h w hw, jEmp_ac])
theorem jUni_ne {A B : jLan} (hA : jOk A) (hB : jOk B) : jUni A B = jEmp ↔ A = jEmp ∧ B = jEmp := by
  constructor
  · intro z
    refine ⟨Classical.byContradiction fun hne => ?_, Classical.byContradiction fun hne => ?_⟩
    · obtain ⟨w, w1, w2⟩ := jne_ex hA hne
      exact jMk_ne (P := fun w => jAc A w || jAc B w) w1 (by show (jAc A w || jAc B w) = true; rw [w2]; rfl) z
    · obtain ⟨w, w1, w2⟩ := jne_ex hB hne
      exact jMk_ne (P := fun w => jAc A w || jAc B w) w1 (by show (jAc A w || jAc B w) = true; rw [w2, Bool.or_true]) z
  · rintro ⟨rfl, rfl⟩
    exact jUni_same jEmp_ok
theorem jAll_ne {S : Nat} (hS : S < 256) : jAllL S ≠ jEmp := fun z => by
  have := (jAllL_ac hS (w := []) (fun _ z => (by cases z))).mpr (fun _ z => (by cases z))
  rw [z, jEmp_ac] at this
  cases this
theorem jWid_ne {L : jLan} (h : L ≠ jEmp) : jWid L ≠ jEmp := by
  unfold jWid
  rw [if_neg h]
  obtain ⟨T, hT⟩ := jLet_ex (jAc L)
  rw [jSet_of hT]
  exact jAll_ne hT.1
theorem jAtm_ne {m : Nat} {L : jLan} (h : L ≠ jEmp) : jAtm m L ≠ jEmp := by
  unfold jAtm; split
  · exact h
  · exact jWid_ne h
theorem jAtm_ok {m : Nat} {L : jLan} (h : jOk L) : jOk (jAtm m L) := by
  unfold jAtm; split
  · exact h
  · exact jWid_ok L
theorem jKp_aon {nw : Nat → jLan} {v k s : Nat} {b : Bool} (h : jAon nw) (hv : v < 5) : jAon (jKp nw v k s b) := by
  unfold jKp
  by_cases he : jKpL (nw v) k s b = jEmp
  · rw [if_pos he]; exact Or.inl (fun _ _ => rfl)
  · rw [if_neg he]
    have hnv : nw v ≠ jEmp := fun z => he (by
      unfold jKpL
      exact jMk_emp (fun w _ => by rw [z, jEmp_ac]; rfl))
    have hall : ∀ v, v < 5 → nw v ≠ jEmp := h.resolve_left (fun z => hnv (z v hv))
    refine Or.inr (fun v' hv' => ?_)
    by_cases hvv : v' = v
    · subst hvv; rw [jup_self]; exact he
    · rw [jup_ne hvv]; exact hall v' hv'
/-- what the sequence's rule does behind a word of its first language -/
theorem jQrun {xa xb : Nat → Nat} {ga na nb : Nat} (hb6 : nb ≤ 6) (hb1 : 1 ≤ nb) (hxa : ∀ i, i < na * 8 → xa i < na) (hxb : ∀ i, i < nb * 8 → xb i < nb) : ∀ (w : List Nat), jok w → ∀ k, k / 64 < na → (∀ r, r < nb → (k % 64).testBit r = true → ((jkr (jQn xa xb ga nb) k w) % 64).testBit (jgo xb r w) = true) ∧ (jkr (jQn xa xb ga nb) k w) / 64 = jgo xa (k / 64) w ∧ (ga.testBit (jgo xa (k / 64) w) = true → (ga.testBit (k / 64) = true → (k % 64).testBit 0 = true) → ((jkr (jQn xa xb ga nb) k w) % 64).testBit 0 = true) := by
  intro w
  induction w with
  | nil => intro _ k hk; exact ⟨fun r _ h => h, rfl, fun h1 h2 => h2 h1⟩
  | cons c w ih =>
    intro hw k hk
    obtain ⟨hc, hw'⟩ := jok_cons.mp hw
    have ha : xa (k / 64 * 8 + c) < na := hxa _ (by omega)
    have hQ : jQs xb k (c + 1) nb < 64 := Nat.lt_of_lt_of_le (jQs_lt (b := nb) (fun q hq => hxb _ (by omega)) nb (Nat.le_refl _)) (Nat.pow_le_pow_right (n := 2) (by decide) hb6)
    have hQ1 : (if ga.testBit (xa (k / 64 * 8 + c)) then jQs xb k (c + 1) nb ||| 1 else jQs xb k (c + 1) nb) < 64 := by
      split
      · exact Nat.or_lt_two_pow (n := 6) hQ (by decide)
      · exact hQ
    have e : jQn xa xb ga nb k (c + 1) = xa (k / 64 * 8 + c) * 64 + (if ga.testBit (xa (k / 64 * 8 + c)) then jQs xb k (c + 1) nb ||| 1 else jQs xb k (c + 1) nb) := by
      unfold jQn jQk
      rw [show k / 64 * 8 + (c + 1) - 1 = k / 64 * 8 + c by omega]
    have ed : jQn xa xb ga nb k (c + 1) / 64 = xa (k / 64 * 8 + c) := by rw [e]; omega
    have em : jQn xa xb ga nb k (c + 1) % 64 = (if ga.testBit (xa (k / 64 * 8 + c)) then jQs xb k (c + 1) nb ||| 1 else jQs xb k (c + 1) nb) := by rw [e]; omega
    obtain ⟨i1, i2, i3⟩ := ih hw' (jQn xa xb ga nb k (c + 1)) (by rw [ed]; exact ha)
    refine ⟨fun r hr hb => ?_, ?_, fun h1 h2 => ?_⟩
    · show ((jkr (jQn xa xb ga nb) (jQn xa xb ga nb k (c + 1)) w) % 64).testBit (jgo xb (xb (r * 8 + c)) w) = true
      refine i1 _ (hxb _ (by omega)) ?_
      rw [em]
      have hkr : k.testBit r = true := by
        rw [show 64 = 2 ^ 6 from rfl, Nat.testBit_mod_two_pow] at hb
        exact (Bool.and_eq_true_iff.mp hb).2
      have hq : (jQs xb k (c + 1) nb).testBit (xb (r * 8 + c)) = true := (jQs_bit xb k (c + 1) _ nb).mpr ⟨r, hr, hkr, rfl⟩
      split
      · rw [Nat.testBit_or, hq]; rfl
      · exact hq
    · show (jkr (jQn xa xb ga nb) (jQn xa xb ga nb k (c + 1)) w) / 64 = jgo xa (xa (k / 64 * 8 + c)) w
      rw [i2, ed]
    · show ((jkr (jQn xa xb ga nb) (jQn xa xb ga nb k (c + 1)) w) % 64).testBit 0 = true
      refine i3 (by rw [ed]; exact h1) (fun h3 => ?_)
      rw [em, if_pos (by rw [ed] at h3; exact h3), Nat.testBit_or]
      rw [show Nat.testBit 1 0 = true by decide, Bool.or_true]
theorem jThn_ne {A B : jLan} (hA : jOk A) (hB : jOk B) (h6 : B.1 ≤ 6) (h1 : A ≠ jEmp) (h2 : B ≠ jEmp) : jThn A B ≠ jEmp := by
  obtain ⟨u, u1, u2⟩ := jne_ex hA h1
  obtain ⟨v, v1, v2⟩ := jne_ex hB h2
  have ok : jok (u ++ v) := fun d hd => (List.mem_append.mp hd).elim (u1 d) (v1 d)
  refine jMk_ne ok ?_
  have hxa : ∀ i, i < A.1 * 8 → jXf A i < A.1 := fun i hi => hA.2.2.2.2.1 i (by omega)
  have hxb : ∀ i, i < B.1 * 8 → jXf B i < B.1 := fun i hi => hB.2.2.2.2.1 i (by omega)
  have hk0 : jQk A.2.1 0 0 / 64 = 0 := by unfold jQk; split <;> rfl
  have ha1 := hA.2.1
  obtain ⟨-, e2, e3⟩ := jQrun (ga := A.2.1) h6 hB.2.1 hxa hxb u u1 (jQk A.2.1 0 0) (by omega)
  rw [hk0] at e2 e3
  have s0 := e3 u2 (fun z => by unfold jQk; rw [if_pos z]; decide)
  have hlt : jkr (jQn (jXf A) (jXf B) A.2.1 B.1) (jQk A.2.1 0 0) u / 64 < A.1 := by rw [e2]; exact jgo_lt (fun t ht => hxa t (by omega)) u 0 ha1 u1
  obtain ⟨f1, -, -⟩ := jQrun (ga := A.2.1) h6 hB.2.1 hxa hxb v v1 _ hlt
  have f2 := f1 0 hB.2.1 s0
  show decide (B.2.1 &&& (jkr _ _ (u ++ v) % 64) ≠ 0) = true
  rw [decide_eq_true_iff, jkr_app]
  exact jand_bit.mpr ⟨_, v2, f2⟩
/-- the image of a word by GUARD, as letters from 0 -/
def jgi (u : List Nat) : List Nat := u.flatMap (fun c => if c = 4 ∨ c = 5 ∨ c = 6 ∨ c = 7 then [(if c = 4 ∨ c = 6 then 6 else 7), c] else [c])
theorem jgi_run {x : Nat → Nat} {n : Nat} (hn : n ≤ 24) (hx : ∀ i, i < n * 8 → x i < n) : ∀ (u : List Nat), jok u → ∀ q, q < n → jok (jgi u) ∧ jkr (jGn x) (q * 3) (jgi u) = jgo x q u * 3 := by
  intro u
  induction u with
  | nil => intro _ q _; exact ⟨fun _ z => (by cases z), rfl⟩
  | cons c u ih =>
    intro hu q hq
    obtain ⟨hc, hu'⟩ := jok_cons.mp hu
    have hx1 : x (q * 8 + c) < n := hx _ (by omega)
    obtain ⟨i1, i2⟩ := ih hu' (x (q * 8 + c)) hx1
    have hs : jgi (c :: u) = (if c = 4 ∨ c = 5 ∨ c = 6 ∨ c = 7 then [(if c = 4 ∨ c = 6 then 6 else 7), c] else [c]) ++ jgi u := rfl
    rw [hs]
    by_cases h4 : c = 4 ∨ c = 5 ∨ c = 6 ∨ c = 7
    · rw [if_pos h4]
      refine ⟨fun d hd => ?_, ?_⟩
      · rcases List.mem_append.mp hd with z | z
        · simp only [List.mem_cons, List.not_mem_nil, or_false] at z
          rcases z with z | z
          · rw [z]; split <;> omega
          · omega
        · exact i1 d z
      · have s1 : jGn x (q * 3) ((if c = 4 ∨ c = 6 then 6 else 7) + 1) = q * 3 + (if c = 4 ∨ c = 6 then 1 else 2) := by
          rw [jGn_eq (by omega) (by omega) (by split <;> omega), if_pos (by omega)]
          by_cases z : c = 4 ∨ c = 6
          · rw [if_pos z, if_pos z, if_neg (by decide), if_neg (by decide)]; omega
          · rw [if_neg z, if_neg z, if_neg (by decide), if_neg (by decide)]; omega
        have s2 : jGn x (q * 3 + (if c = 4 ∨ c = 6 then 1 else 2)) (c + 1) = x (q * 8 + c) * 3 := by
          by_cases z : c = 4 ∨ c = 6
          · rw [if_pos z, jGn_eq (by omega) (by omega) (by omega), if_neg (by omega), if_pos (by omega), show (q * 3 + 1) / 3 * 8 + (c + 1) - 1 = q * 8 + c by omega]
          · rw [if_neg z, jGn_eq (by omega) (by omega) (by omega), if_neg (by omega), if_pos (by omega), show (q * 3 + 2) / 3 * 8 + (c + 1) - 1 = q * 8 + c by omega]
        show jkr (jGn x) (jGn x (jGn x (q * 3) ((if c = 4 ∨ c = 6 then 6 else 7) + 1)) (c + 1)) (jgi u) = jgo x (x (q * 8 + c)) u * 3
        rw [s1, s2]
        exact i2
    · rw [if_neg h4]
      refine ⟨fun d hd => ?_, ?_⟩
      · rcases List.mem_append.mp hd with z | z
        · rw [List.mem_singleton.mp z]; exact hc
        · exact i1 d z
      · have s1 : jGn x (q * 3) (c + 1) = x (q * 8 + c) * 3 := by
          rw [jGn_eq (by omega) (by omega) (by omega), if_pos (by omega), if_pos (by omega), show q * 3 / 3 * 8 + (c + 1) - 1 = q * 8 + c by omega]
        show jkr (jGn x) (jGn x (q * 3) (c + 1)) (jgi u) = jgo x (x (q * 8 + c)) u * 3
        rw [s1]
        exact i2
theorem jFn_ne {L : jLan} {f : Nat} (hL : jOk L) (h : L ≠ jEmp) (hf : f < 3) : jMk (jFn f L) ≠ jEmp := by
  obtain ⟨u, u1, u2⟩ := jne_ex hL h
  have hx : ∀ i, i < L.1 * 8 → jXf L i < L.1 := fun i hi => hL.2.2.2.2.1 i (by omega)
  by_cases h0 : f = 0
  · subst h0
    obtain ⟨g1, g2⟩ := jgi_run hL.2.2.1 hx u u1 0 hL.2.1
    refine jMk_ne g1 ?_
    unfold jFn
    rw [if_pos rfl]
    rw [Nat.zero_mul] at g2
    rw [g2]
    have hlt := jgo_lt (fun t ht => hx t (by omega)) u 0 hL.2.1 u1
    have h24 := hL.2.2.1
    unfold jGg
    rw [decide_eq_true (show jgo (jXf L) 0 u * 3 ≠ 72 by omega), decide_eq_true (show jgo (jXf L) 0 u * 3 % 3 = 0 by omega), show jgo (jXf L) 0 u * 3 / 3 = jgo (jXf L) 0 u by omega]
    exact u2
  · have ok : jok (jIm (fun i => jimg i f) u) := fun d hd => by
      unfold jIm at hd
      obtain ⟨c, hc, rfl⟩ := List.mem_map.mp hd
      obtain ⟨hc1, hc2⟩ := List.mem_filter.mp hc
      have hc8 := u1 c hc1
      rcases (by omega : f = 1 ∨ f = 2) with rfl | rfl <;> rcases (by omega : c = 0 ∨ c = 1 ∨ c = 2 ∨ c = 3 ∨ c = 4 ∨ c = 5 ∨ c = 6 ∨ c = 7) with rfl | rfl | rfl | rfl | rfl | rfl | rfl | rfl <;> decide
    refine jMk_ne ok ?_
    unfold jFn
    rw [if_neg h0]
    exact (@decide_eq_true_iff _ (Classical.propDecidable _)).mpr ⟨u, u1, rfl, u2⟩
theorem jCh1_ne {nw : Nat → jLan} {k a b : Nat} (hok : ∀ v, v < 5 → jOk (nw v)) (h : ∀ v, v < 5 → nw v ≠ jEmp) (hk : k < 4) (h0 : k = 0 → jdg 4 a ∧ a < 2 ^ 24) (h2 : k = 2 → a < 5 ∧ b < 5) (h3 : k = 3 → a < 5 ∧ b < 3) : jCh1 nw k a b ≠ jEmp := by
  unfold jCh1
  by_cases k0 : k = 0
  · rw [if_pos k0]
    obtain ⟨d1, d2⟩ := h0 k0
    have hw := jsf_ok (N := jlen (jmap (fun s => jlet s false) a)) (d := jWd (jmap (fun s => jlet s false) a)) (fun i hi => ?_) (jlen (jmap (fun s => jlet s false) a)) 0 (by omega)
    · exact jMk_ne hw (decide_eq_true rfl)
    · have := jdg_dig (jmap_dg (f := fun s => jlet s false) (h := 8) (fun c h1 h4 => by unfold jlet; simp; omega) (by decide) a d1).1 hi
      unfold jWd
      omega
  · rw [if_neg k0]
    by_cases k1 : k = 1
    · rw [if_pos k1]; exact jAll_ne (by decide)
    · rw [if_neg k1]
      by_cases k2 : k = 2
      · rw [if_pos k2]
        obtain ⟨a5, b5⟩ := h2 k2
        exact jThn_ne (hok a a5) (jAtm_ok (hok b b5)) (jAtm_le (by decide)) (h a a5) (jAtm_ne (h b b5))
      · rw [if_neg k2]
        obtain ⟨a5, b3⟩ := h3 (by omega)
        by_cases hb : b = 0
        · rw [if_pos hb]; exact jFn_ne (hok a a5) (h a a5) b3
        · rw [if_neg hb]; exact jFn_ne (jAtm_ok (hok a a5)) (jAtm_ne (h a a5)) b3
def jAlv (s : jSt) : Prop := jAon s.2.2.1 ∧ (∀ d, jAon (jBf s.2.2.2.1 d)) ∧ ∀ d, jAon (jBf s.2.2.2.2.1 d)
theorem jAon.cong {nw nw' : Nat → jLan} (h : jAon nw) (he : ∀ v, v < 5 → nw' v = nw v) : jAon nw' := h.imp (fun z v hv => by rw [he v hv]; exact z v hv) (fun z v hv => by rw [he v hv]; exact z v hv)
theorem jAon.put {bf : Nat → Option jLan} {nw : Nat → jLan} {l : Nat} (h : ∀ d, jAon (jBf bf d)) (hn : jAon nw) : ∀ d, jAon (jBf (jPut bf (l * 5) 5 nw) d) := fun d => by
  by_cases hd : d = l
  · subst hd; exact hn.cong (fun v hv => jBf_put hv)
  · exact (h d).cong (fun v hv => jBf_put_ne hv hd)
theorem jUni_aon {A B : Nat → jLan} (hA : jAon A) (hB : jAon B) (oA : ∀ v, v < 5 → jOk (A v)) (oB : ∀ v, v < 5 → jOk (B v)) : jAon (fun v => jUni (A v) (B v)) := by
  rcases hA with a | a
  · rcases hB with b | b
    · exact Or.inl (fun v hv => (jUni_ne (oA v hv) (oB v hv)).mpr ⟨a v hv, b v hv⟩)
    · exact Or.inr (fun v hv z => b v hv ((jUni_ne (oA v hv) (oB v hv)).mp z).2)
  · exact Or.inr (fun v hv z => a v hv ((jUni_ne (oA v hv) (oB v hv)).mp z).1)
theorem jCr1_aon {w : Bool} {A H : Nat → jLan} (hA : jAon A) (hH : jAon H) (oA : ∀ v, v < 5 → jOk (A v)) (oH : ∀ v, v < 5 → jOk (H v)) : jAon (fun v => jCr1 w (A v) (H v)) := by
  have hu := jUni_aon hA hH oA oH
  rcases hu with u | u
  · refine Or.inl (fun v hv => ?_)
    have h1 : jUni (A v) (H v) = jEmp := u v hv
    have h2 := ((jUni_ne (oA v hv) (oH v hv)).mp h1)
    show jCr1 w (A v) (H v) = jEmp
    unfold jCr1
    rw [if_pos (by rw [h1, h2.2])]
    exact h2.2
  · refine Or.inr (fun v hv => ?_)
    have h1 : jUni (A v) (H v) ≠ jEmp := u v hv
    show jCr1 w (A v) (H v) ≠ jEmp
    unfold jCr1
    by_cases he : jUni (A v) (H v) = H v
    · rw [if_pos he, ← he]; exact h1
    · rw [if_neg he]
      cases w
      · exact h1
      · exact jWid_ne h1
set_option maxHeartbeats 2000000 in
theorem jGo_aon {n hw : Nat} {K V A B M L : Nat → Nat} {σ : Nat → List (Nat × Nat)} {s : jSt} (hI : jDI n K A σ s hw) (hl : s.1 < n) (hln : ∀ i, i < n → jLn (K i) (V i) (A i) (B i)) (hM : ∀ i, i < n → (K i = 6 → M (M i) < n) ∧ (8 ≤ K i → M i < n)) (h : jAlv s) : jAlv (jStep n K V A B M L s) := by
  have hst : jStep n K V A B M L s = jGo K V A B M L s.1 s.2.1 s.2.2.1 s.2.2.2.1 s.2.2.2.2.1 s.2.2.2.2.2 := if_pos hl
  rw [hst]
  obtain ⟨i, rd, nw, bf, bg, sk⟩ := s
  have hi : i < n := hl
  obtain ⟨-, -, -, -, o1, o2, o3, -⟩ := hI
  have o1 : ∀ v, v < 5 → jOk (nw v) := o1
  have o2 : jOks bf := o2
  have o3 : jOks bg := o3
  obtain ⟨h1, h2, h3⟩ := h
  have h1 : jAon nw := h1
  have h2 : ∀ d, jAon (jBf bf d) := h2
  have h3 : ∀ d, jAon (jBf bg d) := h3
  obtain ⟨l1, l2, l3, l4, l5, l6, l7, l8⟩ := hln i hi
  obtain ⟨m6, m8⟩ := hM i hi
  show jAlv (jGo K V A B M L i rd nw bf bg sk)
  by_cases k4 : K i = 4
  · rw [jGo_4 k4]; exact ⟨h1, h2, h3⟩
  by_cases k5 : K i = 5
  · rw [jGo_5 k5]; exact ⟨jKp_aon h1 l2, jAon.put h2 h1, h3⟩
  by_cases k6 : K i = 6
  · rw [jGo_6 k6 rfl]; exact ⟨jKp_aon (h2 _) (hln _ (m6 k6)).2.1, h2, jAon.put h3 h1⟩
  by_cases k7 : K i = 7
  · rw [jGo_7 k7]; exact ⟨jKp_aon h1 l2, jAon.put h2 h1, h3⟩
  by_cases k8 : K i = 8
  · have mv := (hln _ (m8 (by omega))).2.1
    by_cases hm : M (M i) = i
    · rw [jGo_8a k8 rfl hm]
      refine ⟨jUni_aon (jKp_aon (h2 _) mv) h1 (jKp_ok (fun v _ => o2.bf _ v)) o1, h2, jAon.put h3 h1⟩
    · rw [jGo_8b k8 rfl hm]
      exact ⟨jUni_aon h1 (h3 _) o1 (fun v _ => o3.bf _ v), h2, h3⟩
  by_cases k9 : K i = 9
  · have mv := (hln _ (m8 (by omega))).2.1
    rw [jGo_9 k9 rfl]
    have hc := jCr1_aon (w := decide (3 ≤ rd (M i) + 1)) h1 (h2 (L (M i))) o1 (fun v _ => o2.bf _ v)
    exact ⟨jKp_aon hc mv, jAon.put h2 hc, h3⟩
  rw [jGo_0 (by omega)]
  refine ⟨?_, h2, h3⟩
  show jAon (jChg nw (K i) (V i) (A i) (B i))
  unfold jChg
  by_cases hd : nw 0 = jEmp
  · rw [if_pos hd]; exact h1
  · rw [if_neg hd]
    have hall : ∀ v, v < 5 → nw v ≠ jEmp := h1.resolve_left (fun z => hd (z 0 (by decide)))
    have hne := jCh1_ne (a := A i) (b := B i) o1 hall (show K i < 4 by omega) l3 l5 l6
    refine Or.inr (fun v' hv' => ?_)
    by_cases hvv : v' = V i
    · subst hvv; rw [jup_self]; exact hne
    · rw [jup_ne hvv]; exact hall v' hv'
