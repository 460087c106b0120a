-- the model: occurring
def jcn (lv : Nat → Bool) (key : Nat → Nat) : Nat → Nat
  | 0 => 0
  | i + 1 => jcn lv key i + (lv (key i)).toNat
theorem jcn_le (lv : Nat → Bool) (key : Nat → Nat) : ∀ n, jcn lv key n ≤ n
  | 0 => Nat.le_refl _
  | n + 1 => by have := jcn_le lv key n; rw [jcn]; cases lv (key n) <;> simp <;> omega
theorem jcn_mono {lv lv' : Nat → Bool} {key : Nat → Nat} : ∀ n, (∀ i, i < n → lv (key i) = true → lv' (key i) = true) → jcn lv key n ≤ jcn lv' key n
  | 0, _ => Nat.le_refl _
  | n + 1, h => by
    have := jcn_mono n (fun i hi => h i (by omega))
    have h2 := h n (by omega)
    rw [jcn, jcn]
    cases h3 : lv (key n) <;> cases h4 : lv' (key n) <;> simp <;> first | omega | (rw [h3, h4] at h2; exact absurd (h2 rfl) (by decide))
theorem jcn_lt {lv lv' : Nat → Bool} {key : Nat → Nat} : ∀ n, (∀ i, i < n → lv (key i) = true → lv' (key i) = true) → (∃ i, i < n ∧ lv (key i) = false ∧ lv' (key i) = true) → jcn lv key n < jcn lv' key n
  | 0, _, h => by obtain ⟨i, hi, -⟩ := h; omega
  | n + 1, h, ⟨i, hi, h1, h2⟩ => by
    have hm := jcn_mono n (fun i hi => h i (by omega))
    rw [jcn, jcn]
    by_cases hin : i = n
    · subst hin; rw [h1, h2]; simp; omega
    · have := jcn_lt n (fun i hi => h i (by omega)) ⟨i, by omega, h1, h2⟩
      have h3 := h n (by omega)
      cases h4 : lv (key n) <;> cases h5 : lv' (key n) <;> simp <;> first | omega | (rw [h4, h5] at h3; exact absurd (h3 rfl) (by decide))
def jLive (nxt : Nat → Nat → Nat) (acc : Nat → Bool) (k : Nat) : Prop := ∃ w, jok w ∧ acc (jkr nxt k w) = true
theorem jRx.all {V : Nat → Prop} {fi : Nat} {nxt : Nat → Nat → Nat} {n : Nat} {key : Nat → Nat} (h : jRx V fi nxt (8 * n) n key) : ∀ (w : List Nat), jok w → ∀ i, i < n → ∃ j, j < n ∧ key j = jkr nxt (key i) w := by
  intro w
  induction w with
  | nil => intro _ i hi; exact ⟨i, hi, rfl⟩
  | cons c w ih =>
    intro hw i hi
    obtain ⟨hc, hw'⟩ := jok_cons.mp hw
    obtain ⟨j, j1, j2⟩ := h.2.2.2.2.1 (8 * i + c) (by omega)
    rw [show (8 * i + c) / 8 = i by omega, show (8 * i + c) % 8 + 1 = c + 1 by omega] at j2
    obtain ⟨j', j3, j4⟩ := ih hw' j j1
    exact ⟨j', j3, by rw [j4, j2]; rfl⟩
section JMO
variable (l : Launch) (D : va_G) (g : Nat × Nat) {X : ja_H}
set_option maxHeartbeats 16000000 in
set_option maxRecDepth 100000 in
theorem c_M_occurring {V : Nat → Prop} {fi n : Nat} {nxt : Nat → Nat → Nat} {acc : Nat → Bool} {key : Nat → Nat} {s0 s st gd tb li se el er cs ct : Nat → Int32} (h : jEr X s st gd tb li se el er cs ct) (hR : jRu l D g V fi nxt acc s0 st gd tb) (hs : ∀ j, 18 ≤ j → j ≤ 25 → s j = s0 j) (hn : s 27 = nI n) (hx : jRx V fi nxt (8 * n) n key) (hli : ∀ i, i < n → li i = nI (key i)) :
    AMet l D g 4 0 0 m_M_occurring [.ref 145] X (fun r X' => ∃ (S : Nat) (se' : Nat → Int32), r = some (.int (nI (2 * S))) ∧ jLet (fun w => acc (jkr nxt fi w)) S ∧ jEr X' s st gd tb li se' el er cs ct ∧ jfr [161] X X') := by
  obtain ⟨v0, v1, v2, hX⟩ := hR
  have hn15 := hx.le v2
  have clo : ∀ i x, i < n → 1 ≤ x → x ≤ 8 → ∃ j, j < n ∧ key j = nxt (key i) x := fun i x hi h1 h8 => by
    obtain ⟨j, j1, j2⟩ := hx.2.2.2.2.1 (8 * i + (x - 1)) (by omega)
    rw [show (8 * i + (x - 1)) / 8 = i by omega, show (8 * i + (x - 1)) % 8 + 1 = x by omega] at j2
    exact ⟨j, j1, j2⟩
  refine ja_metK (by decide) rfl (Nat.le_of_ble_eq_true rfl) fun K hB hF => ?_
  -- the last loops
  have last : ∀ (lv : Nat → Bool) (se' : Nat → Int32) (Y : ja_H), jEr Y s st gd tb li se' el er cs ct → (∀ i, i < n → se' (key i) = nI (lv (key i)).toNat) → (∀ i, i < n → (lv (key i) = true ↔ jLive nxt acc (key i))) → jfr [161] X Y → ∀ p i (al : Nat) (b c d : Value), i + p = n → al < 512 → al.testBit 0 = false → (∀ x, 1 ≤ x → x ≤ 8 → (al.testBit x = true ↔ ∃ i', i' < i ∧ lv (nxt (key i') x) = true)) → K 193 [.ref 145, .int (nI 0), .int (nI al), .int (nI i), d] [] Y 0 0 := by
    intro lv se' Y e1 e2 e3 hf p
    have sen : ∀ i x, i < n → 1 ≤ x → x ≤ 8 → se' (nxt (key i) x) = nI (lv (nxt (key i) x)).toNat := fun i x hi h1 h8 => by
      obtain ⟨j, j1, j2⟩ := clo i x hi h1 h8
      rw [← j2]; exact e2 j j1
    induction p with
    | zero =>
      intro i al b c d hi a1 a2 a3
      refine kw_iload_n hB M_occurring_193 rfl ?_
      refine kw_aload_n hB M_occurring_194 rfl ?_
      refine kw_getf hB M_occurring_195 f_M_174 e1.1 rfl ?_
      rw [hn]
      refine kn_icmp_ge hB M_occurring_198 (by omega) (by omega) (fun _ => ?_) (fun z => absurd z (by omega))
      refine kw_iload_n hB M_occurring_255 rfl ?_
      refine kw_iret hF rfl M_occurring_256 ⟨al / 2, se', ?_, ⟨by omega, fun c hc => ?_⟩, e1, hf⟩ hf.1
      · have : al % 2 = 0 := by
          have := jb_bit al 0
          rw [a2] at this
          simp at this
          exact this
        rw [show 2 * (al / 2) = al by omega]
      · rw [show (al / 2).testBit c = al.testBit (c + 1) by rw [Nat.testBit_succ]]
        rw [a3 (c + 1) (by omega) (by omega)]
        constructor
        · rintro ⟨i', hi', hlv⟩
          obtain ⟨j, j1, j2⟩ := clo i' (c + 1) (by omega) (by omega) (by omega)
          rw [← j2] at hlv
          obtain ⟨w2, w3, w4⟩ := (e3 j j1).mp hlv
          obtain ⟨w1, w5, w6⟩ := hx.2.2.2.2.2.1 i' (by omega)
          refine ⟨w1 ++ c :: w2, fun d hd => ?_, List.mem_append.mpr (Or.inr (List.mem_cons_self ..)), ?_⟩
          · rcases List.mem_append.mp hd with z | z
            · exact w5 d z
            · rcases List.mem_cons.mp z with rfl | z
              · exact hc
              · exact w3 d z
          · show acc (jkr nxt fi (w1 ++ c :: w2)) = true
            rw [jkr_app, w6]
            show acc (jkr nxt (nxt (key i') (c + 1)) w2) = true
            rw [← j2]; exact w4
        · rintro ⟨w, w1, w2, w3⟩
          obtain ⟨u, v, rfl⟩ := List.append_of_mem w2
          have hall : ∀ w, jok w → ∃ j, j < n ∧ key j = jkr nxt fi w := fun w hw => by
            have := hx.all w hw 0 (by have := hx.1; omega)
            rw [hx.2.1] at this
            exact this
          have hu : jok u := fun c hc => w1 c (List.mem_append.mpr (Or.inl hc))
          have hv : jok v := fun c hc => w1 c (List.mem_append.mpr (Or.inr (List.mem_cons_of_mem _ hc)))
          obtain ⟨i', i1, i2⟩ := hall u hu
          obtain ⟨j, j1, j2⟩ := clo i' (c + 1) i1 (by omega) (by omega)
          refine ⟨i', by omega, ?_⟩
          rw [← j2]
          refine (e3 j j1).mpr ⟨v, hv, ?_⟩
          have w3 : acc (jkr nxt fi (u ++ c :: v)) = true := w3
          rw [jkr_app, ← i2] at w3
          rw [j2]; exact w3
    | succ p ih =>
      intro i al b c d hi a1 a2 a3
      have hin : i < n := by omega
      have hVi := hx.2.2.1 i hin
      obtain ⟨-, -, hk3⟩ := hX Y s st gd tb e1.tr hs (fun _ _ => rfl) (fun _ _ => rfl) (fun _ _ => rfl)
      refine kw_iload_n hB M_occurring_193 rfl ?_
      refine kw_aload_n hB M_occurring_194 rfl ?_
      refine kw_getf hB M_occurring_195 f_M_174 e1.1 rfl ?_
      rw [hn]
      refine kn_icmp_ge hB M_occurring_198 (by omega) (by omega) (fun z => absurd z (by omega)) (fun _ => ?_)
      have inner : ∀ q t (al : Nat), t + q = 8 → al < 512 → al.testBit 0 = false → (∀ x, 1 ≤ x → x ≤ 8 → (al.testBit x = true ↔ (∃ i', i' < i ∧ lv (nxt (key i') x) = true) ∨ (x ≤ t ∧ lv (nxt (key i) x) = true))) → K 204 [.ref 145, .int (nI 0), .int (nI al), .int (nI i), .int (nI (t + 1))] [] Y 0 0 := by
        intro q
        induction q with
        | zero =>
          intro t al ht b1 b2 b3
          refine kw_iload hB M_occurring_204 rfl ?_
          refine kw_bipush hB M_occurring_206 (v := nI 8) (by decide) ?_
          refine kn_icmp_gt hB M_occurring_208 (by omega) (by decide) (fun _ => ?_) (fun z => absurd z (by omega))
          refine kn_iinc hB M_occurring_249 rfl (by decide) rfl ?_
          refine kw_goto hB M_occurring_252 ?_
          refine ih (i + 1) al (.int 0) (.int 0) _ (by omega) b1 b2 (fun x h1 h8 => ?_)
          rw [b3 x h1 h8]
          constructor
          · rintro (⟨i', q1, q2⟩ | ⟨-, q2⟩)
            · exact ⟨i', by omega, q2⟩
            · exact ⟨i, by omega, q2⟩
          · rintro ⟨i', q1, q2⟩
            by_cases z : i' = i
            · subst z; exact Or.inr ⟨by omega, q2⟩
            · exact Or.inl ⟨i', by omega, q2⟩
        | succ q ihq =>
          intro t al ht b1 b2 b3
          refine kw_iload hB M_occurring_204 rfl ?_
          refine kw_bipush hB M_occurring_206 (v := nI 8) (by decide) ?_
          refine kn_icmp_gt hB M_occurring_208 (by omega) (by decide) (fun z => absurd z (by omega)) (fun _ => ?_)
          refine kw_iload_n hB M_occurring_211 rfl ?_
          refine kw_aload_n hB M_occurring_212 rfl ?_
          refine kw_getf hB M_occurring_213 f_M_56 e1.1 rfl ?_
          refine kw_aload_n hB M_occurring_216 rfl ?_
          refine kw_aload_n hB M_occurring_217 rfl ?_
          refine kw_getf hB M_occurring_218 f_M_53 e1.1 rfl ?_
          refine kw_iload_n hB M_occurring_221 rfl ?_
          refine kn_iald hB M_occurring_222 e1.2.2.2.2.1 rfl (by omega) (by decide) ?_
          rw [hli i hin]
          refine kw_iload hB M_occurring_223 rfl ?_
          refine kw_callV hB M_occurring_225 s_M_180 im_M_next se_M_next e1.1 rfl rfl (As := [.int (nI (key i)), .int (nI (t + 1))]) (hk3 (key i) (t + 1) hVi (by omega) (by omega)) rfl (by decide) (Nat.le_of_ble_eq_true rfl) (by omega) (by omega) (fun r X1 hq hl => ?_)
          obtain ⟨rfl, hxeq⟩ := hq
          obtain rfl := hxeq.symm
          refine kn_iald hB M_occurring_228 e1.2.2.2.2.2.1 rfl (v2 _ (v1 _ _ hVi (by omega) (by omega))) (by decide) ?_
          rw [sen i (t + 1) hin (by omega) (by omega)]
          refine kw_iconst hB M_occurring_229 (v := nI 1) (by decide) ?_
          have step : ∀ y : Nat, (y = 0 ∧ lv (nxt (key i) (t + 1)) = false ∨ y = 2 ^ (t + 1) ∧ lv (nxt (key i) (t + 1)) = true) → K 241 [.ref 145, .int (nI 0), .int (nI al), .int (nI i), .int (nI (t + 1))] [.int (nI y), .int (nI al)] Y 0 0 := by
            intro y hy
            refine kw_ior hB M_occurring_241 ?_
            rw [jb_or]
            refine kw_istore_n hB M_occurring_242 rfl (by decide) rfl ?_
            refine kn_iinc hB M_occurring_243 rfl (by decide) rfl ?_
            refine kw_goto hB M_occurring_246 ?_
            have hp : 2 ^ (t + 1) ≤ 2 ^ 8 := Nat.pow_le_pow_right (by decide) (by omega)
            have hp0 : 2 ≤ 2 ^ (t + 1) := by rw [Nat.pow_succ]; have := Nat.pow_pos (n := t) (show 0 < 2 by decide); omega
            refine ihq (t + 1) (al ||| y) (by omega) (Nat.or_lt_two_pow (n := 9) b1 (by rcases hy with ⟨rfl, -⟩ | ⟨rfl, -⟩ <;> omega)) ?_ (fun x h1 h8 => ?_)
            · rw [Nat.testBit_or, b2]
              rcases hy with ⟨rfl, -⟩ | ⟨rfl, -⟩
              · rfl
              · rw [Bool.false_or, Nat.testBit_two_pow_of_ne (by omega)]
            · rw [Nat.testBit_or, Bool.or_eq_true, b3 x h1 h8]
              rcases hy with ⟨rfl, hf'⟩ | ⟨rfl, ht'⟩
              · rw [Nat.zero_testBit]
                constructor
                · rintro ((q1 | ⟨q1, q2⟩) | q1)
                  · exact Or.inl q1
                  · exact Or.inr ⟨by omega, q2⟩
                  · cases q1
                · rintro (q1 | ⟨q1, q2⟩)
                  · exact Or.inl (Or.inl q1)
                  · by_cases z : x = t + 1
                    · subst z; rw [hf'] at q2; cases q2
                    · exact Or.inl (Or.inr ⟨by omega, q2⟩)
              · by_cases z : x = t + 1
                · subst z
                  rw [Nat.testBit_two_pow_self]
                  exact ⟨fun _ => Or.inr ⟨Nat.le_refl _, ht'⟩, fun _ => Or.inr rfl⟩
                · rw [Nat.testBit_two_pow_of_ne (fun q => z q.symm)]
                  constructor
                  · rintro ((q1 | ⟨q1, q2⟩) | q1)
                    · exact Or.inl q1
                    · exact Or.inr ⟨by omega, q2⟩
                    · cases q1
                  · rintro (q1 | ⟨q1, q2⟩)
                    · exact Or.inl (Or.inl q1)
                    · exact Or.inl (Or.inr ⟨by omega, q2⟩)
          refine kn_icmp_ne hB M_occurring_230 (by cases lv (nxt (key i) (t + 1)) <;> decide) (by decide) (fun hz => ?_) (fun hz => ?_)
          · refine kw_iconst hB M_occurring_240 (v := nI 0) (by decide) ?_
            exact step 0 (Or.inl ⟨rfl, by cases hb : lv (nxt (key i) (t + 1)); rfl; rw [hb] at hz; exact absurd rfl hz⟩)
          · refine kw_iconst hB M_occurring_233 (v := nI 1) (by decide) ?_
            refine kw_iload hB M_occurring_234 rfl ?_
            refine kw_ishl hB M_occurring_236 ?_
            rw [jb_shl (by omega) (by have : 2 ^ (t + 1) ≤ 2 ^ 8 := Nat.pow_le_pow_right (by decide) (by omega); omega), Nat.one_mul]
            refine kw_goto hB M_occurring_237 ?_
            exact step _ (Or.inr ⟨rfl, by cases hb : lv (nxt (key i) (t + 1)); rw [hb] at hz; exact absurd hz (by decide); rfl⟩)
      refine kw_iconst hB M_occurring_201 (v := nI 1) (by decide) ?_
      refine kw_istore hB M_occurring_202 (by decide) rfl ?_
      refine inner 8 0 al (by omega) a1 a2 (fun x h1 h8 => ?_)
      rw [a3 x h1 h8]
      exact ⟨fun q => Or.inl q, fun q => q.elim id (fun z => by omega)⟩
  have f161 : ∀ (Y : ja_H) (c : ja_C), jfr [161] Y (Y.set 161 c) := fun Y c => jset_fr Y 161 c
  have live1 : ∀ k x, 1 ≤ x → x ≤ 8 → jLive nxt acc (nxt k x) → jLive nxt acc k := fun k x h1 h8 ⟨w, w1, w2⟩ => ⟨(x - 1) :: w, jok_cons.mpr ⟨by omega, w1⟩, by
    show acc (jkr nxt (nxt k (x - 1 + 1)) w) = true
    rw [show x - 1 + 1 = x by omega]; exact w2⟩
  -- a pass over the keys: behind it comes another, or the last loops
  have pass : ∀ (lv0 : Nat → Bool) (b c d : Value) (se0 : Nat → Int32) (Y0 : ja_H), jEr Y0 s st gd tb li se0 el er cs ct → (∀ i, i < n → se0 (key i) = nI (lv0 (key i)).toNat) → (∀ i, i < n → lv0 (key i) = true → jLive nxt acc (key i)) → (∀ i, i < n → acc (key i) = true → lv0 (key i) = true) → jfr [161] X Y0 →
      (∀ (lv1 : Nat → Bool) (se1 : Nat → Int32) (Y : ja_H) (b c d : Value), jcn lv0 key n < jcn lv1 key n → jEr Y s st gd tb li se1 el er cs ct → (∀ i, i < n → se1 (key i) = nI (lv1 (key i)).toNat) → (∀ i, i < n → lv1 (key i) = true → jLive nxt acc (key i)) → (∀ i, i < n → acc (key i) = true → lv1 (key i) = true) → jfr [161] X Y → K 47 [.ref 145, .int (nI 1), b, c, d] [] Y 0 0) → K 47 [.ref 145, .int (nI 1), b, c, d] [] Y0 0 0 := by
    intro lv0 b c d se0 Y0 e1 e2 e3 e4 hf next
    have row : ∀ q (x : Int32) (lv1 : Nat → Bool) (mo : Bool) (se1 : Nat → Int32) (Y : ja_H) (u w : Value), q ≤ n → (1 ≤ q → x = nI (q - 1)) → (q = 0 → x = -1) → jEr Y s st gd tb li se1 el er cs ct → (∀ i, i < n → se1 (key i) = nI (lv1 (key i)).toNat) → (∀ i, i < n → lv1 (key i) = true → jLive nxt acc (key i)) → (∀ i, i < n → lv0 (key i) = true → lv1 (key i) = true) → (mo = false → (∀ i, i < n → lv1 (key i) = lv0 (key i)) ∧ ∀ j, q ≤ j → j < n → (∃ x, 1 ≤ x ∧ x ≤ 8 ∧ lv0 (nxt (key j) x) = true) → lv0 (key j) = true) → (mo = true → jcn lv0 key n < jcn lv1 key n) → jfr [161] X Y → K 60 [.ref 145, .int (nI mo.toNat), .int x, u, w] [] Y 0 0 := by
      intro q
      induction q with
      | zero =>
        intro x lv1 mo se1 Y u w hq x1 x0 y1 y2 y3 y4 y5 y6 yf
        rw [x0 rfl]
        refine kw_iload_n hB M_occurring_60 rfl ?_
        refine kw_if_lt hB M_occurring_61 (fun _ => ?_) (fun z => absurd (by decide) z)
        refine kw_goto hB M_occurring_186 ?_
        cases mo with
        | true => exact next lv1 se1 Y _ _ _ (y6 rfl) y1 y2 y3 (fun i hi ha => y4 i hi (e4 i hi ha)) yf
        | false =>
          obtain ⟨z1, z2⟩ := y5 rfl
          refine kw_iload_n hB M_occurring_47 rfl ?_
          refine kn_if_eq hB M_occurring_48 (by decide) (fun _ => ?_) (fun z => absurd rfl z)
          refine kw_iconst hB M_occurring_189 (v := nI 0) (by decide) ?_
          refine kw_istore_n hB M_occurring_190 rfl (by decide) rfl ?_
          refine kw_iconst hB M_occurring_191 (v := nI 0) (by decide) ?_
          refine kw_istore_n hB M_occurring_192 rfl (by decide) rfl ?_
          have comp : ∀ (w : List Nat), jok w → ∀ i, i < n → acc (jkr nxt (key i) w) = true → lv1 (key i) = true := by
            intro w
            induction w with
            | nil => intro _ i hi ha; exact y4 i hi (e4 i hi ha)
            | cons c w ihw =>
              intro hw i hi ha
              obtain ⟨hc, hw'⟩ := jok_cons.mp hw
              obtain ⟨j, j1, j2⟩ := clo i (c + 1) hi (by omega) (by omega)
              have := ihw hw' j j1 (by rw [j2]; exact ha)
              rw [z1 i hi]
              refine z2 i (by omega) hi ⟨c + 1, by omega, by omega, ?_⟩
              rw [← j2, ← z1 j j1]; exact this
          refine last lv1 se1 Y y1 y2 (fun i hi => ⟨y3 i hi, fun ⟨w, w1, w2⟩ => comp w w1 i hi w2⟩) yf n 0 0 (.int 0) (.int 0) _ (by omega) (by decide) (Nat.zero_testBit 0) (fun x h1 h8 => ?_)
          rw [Nat.zero_testBit]
          exact ⟨fun z => (by cases z), fun ⟨i', hi', _⟩ => absurd hi' (by omega)⟩
      | succ q ihq =>
        intro x lv1 mo se1 Y u w hq x1 x0 y1 y2 y3 y4 y5 y6 yf
        have hin : q < n := by omega
        have hVi := hx.2.2.1 q hin
        have hkl := v2 _ hVi
        rw [x1 (by omega), show q + 1 - 1 = q by omega]
        obtain ⟨-, -, hk3⟩ := hX Y s st gd tb y1.tr hs (fun _ _ => rfl) (fun _ _ => rfl) (fun _ _ => rfl)
        have sen : ∀ x, 1 ≤ x → x ≤ 8 → se1 (nxt (key q) x) = nI (lv1 (nxt (key q) x)).toNat := fun x h1 h8 => by
          obtain ⟨j, j1, j2⟩ := clo q x hin h1 h8
          rw [← j2]; exact y2 j j1
        -- behind the letters
        have b160 : ∀ (al mo2 : Bool) (w : Value), (al = true ↔ lv1 (key q) = true ∨ ∃ x, 1 ≤ x ∧ x ≤ 8 ∧ lv1 (nxt (key q) x) = true) → (mo2 = (mo || (al && !lv1 (key q)))) → K 160 [.ref 145, .int (nI mo2.toNat), .int (nI q), .int (nI al.toNat), w] [] Y 0 0 := by
          intro al mo2 w hal hmo
          have hal1 : lv1 (key q) = true → al = true := fun z => hal.mpr (Or.inl z)
          have step : K 179 [.ref 145, .int (nI mo2.toNat), .int (nI q), .int (nI al.toNat), w] [.int (nI al.toNat), .int (nI (key q)), .ref 161] Y 0 0 := by
            refine kn_iast hB M_occurring_179 y1.2.2.2.2.2.1 rfl hkl (by decide) ?_
            have g1 := y1.s_se (f' := upd se1 (key q) (nI al.toNat))
            have yf1 := yf.tr (f161 Y (.inl (0, 1536, .inl (upd se1 (key q) (nI al.toNat)))))
            generalize Y.set 161 (.inl (0, 1536, .inl (upd se1 (key q) (nI al.toNat)))) = Y1 at g1 yf1
            have up : ∀ i, i < n → i ≠ q → va_up lv1 (key q) al (key i) = lv1 (key i) := fun i hi hne => jup_ne (fun z => hne (hx.2.2.2.1 i q hi hin z))
            have go : ∀ y : Int32, (1 ≤ q → y = nI (q - 1)) → (q = 0 → y = -1) → K 60 [.ref 145, .int (nI mo2.toNat), .int y, .int (nI al.toNat), w] [] Y1 0 0 := by
              intro y q1 q0
              refine ihq y (va_up lv1 (key q) al) mo2 _ Y1 _ _ (by omega) q1 q0 g1 (fun i hi => ?_) (fun i hi hl => ?_) (fun i hi hl => ?_) (fun hm => ?_) (fun hm => ?_) yf1
              · by_cases z : i = q
                · subst z; rw [pk_us, jup_self]
                · rw [pk_un (fun k => z (hx.2.2.2.1 i q hi hin k)), up i hi z]; exact y2 i hi
              · by_cases z : i = q
                · subst z
                  rw [jup_self] at hl
                  rcases hal.mp hl with z1 | ⟨x, h1, h8, hx9⟩
                  · exact y3 i hi z1
                  · obtain ⟨j, j1, j2⟩ := clo i x hin h1 h8
                    refine live1 (key i) x h1 h8 ?_
                    rw [← j2]; exact y3 j j1 (by rw [j2]; exact hx9)
                · rw [up i hi z] at hl; exact y3 i hi hl
              · by_cases z : i = q
                · subst z; rw [jup_self]; exact hal1 (y4 i hi hl)
                · rw [up i hi z]; exact y4 i hi hl
              · rw [hm] at hmo
                obtain ⟨m1, m2⟩ := Bool.or_eq_false_iff.mp hmo.symm
                obtain ⟨z1, z2⟩ := y5 m1
                have hae : al = lv1 (key q) := by
                  cases ha : al with
                  | false =>
                    cases hl : lv1 (key q) with
                    | false => rfl
                    | true => rw [hal1 hl] at ha; cases ha
                  | true =>
                    rw [ha] at m2
                    cases hl : lv1 (key q) with
                    | true => rfl
                    | false => rw [hl] at m2; cases m2
                refine ⟨fun i hi => ?_, fun j h1 h2 h3 => ?_⟩
                · by_cases z : i = q
                  · subst z; rw [jup_self, hae]; exact z1 i hi
                  · rw [up i hi z]; exact z1 i hi
                · by_cases z : j = q
                  · subst z
                    rw [← z1 j h2, ← hae]
                    obtain ⟨x, q1, q8, q9⟩ := h3
                    obtain ⟨j', j1, j2⟩ := clo j x hin q1 q8
                    exact hal.mpr (Or.inr ⟨x, q1, q8, by rw [← j2, z1 j' j1, j2]; exact q9⟩)
                  · exact z2 j (by omega) h2 h3
              · have mono2 : ∀ i, i < n → lv1 (key i) = true → va_up lv1 (key q) al (key i) = true := fun i hi hl => by
                  by_cases z : i = q
                  · subst z; rw [jup_self]; exact hal1 hl
                  · rw [up i hi z]; exact hl
                rw [hm] at hmo
                rcases Bool.or_eq_true_iff.mp hmo.symm with m1 | m1
                · exact Nat.lt_of_lt_of_le (y6 m1) (jcn_mono n mono2)
                · obtain ⟨a1, a2⟩ := Bool.and_eq_true_iff.mp m1
                  have hlf : lv1 (key q) = false := by cases hl : lv1 (key q); rfl; rw [hl] at a2; cases a2
                  exact Nat.lt_of_le_of_lt (jcn_mono n y4) (jcn_lt n mono2 ⟨q, hin, hlf, by rw [jup_self]; exact a1⟩)
            by_cases hq0 : q = 0
            · subst hq0
              refine kw_iinc hB M_occurring_180 rfl (v := -1) (by decide) (by decide) rfl ?_
              refine kw_goto hB M_occurring_183 ?_
              exact go (-1) (fun z => by omega) (fun _ => rfl)
            · refine kw_iinc hB M_occurring_180 rfl (v := nI (q - 1)) (by
                have := pk_m1 (q - 1)
                rw [show q - 1 + 1 = q by omega] at this
                exact this) (by decide) rfl ?_
              refine kw_goto hB M_occurring_183 ?_
              exact go (nI (q - 1)) (fun _ => rfl) (fun z => absurd z hq0)
          refine kw_aload_n hB M_occurring_160 rfl ?_
          refine kw_getf hB M_occurring_161 f_M_56 y1.1 rfl ?_
          refine kw_aload_n hB M_occurring_164 rfl ?_
          refine kw_getf hB M_occurring_165 f_M_53 y1.1 rfl ?_
          refine kw_iload_n hB M_occurring_168 rfl ?_
          refine kn_iald hB M_occurring_169 y1.2.2.2.2.1 rfl (by omega) (by decide) ?_
          rw [hli q hin]
          refine kw_iload_n hB M_occurring_170 rfl ?_
          refine kn_if_eq hB M_occurring_171 (by cases al <;> decide) (fun hz => ?_) (fun hz => ?_)
          · refine kw_iconst hB M_occurring_178 (v := nI 0) (by decide) ?_
            have := jb_f hz
            subst this
            exact step
          · refine kw_iconst hB M_occurring_174 (v := nI 1) (by decide) ?_
            refine kw_goto hB M_occurring_175 ?_
            have := jb_t hz
            subst this
            exact step
        have b132 : ∀ (al : Bool) (w : Value), (al = true ↔ lv1 (key q) = true ∨ ∃ x, 1 ≤ x ∧ x ≤ 8 ∧ lv1 (nxt (key q) x) = true) → K 132 [.ref 145, .int (nI mo.toNat), .int (nI q), .int (nI al.toNat), w] [] Y 0 0 := by
          intro al w hal
          refine kw_iload_n hB M_occurring_132 rfl ?_
          refine kn_if_ne hB M_occurring_133 (by cases mo <;> decide) (fun hm => ?_) (fun hm => ?_)
          · refine kw_iconst hB M_occurring_154 (v := nI 1) (by decide) ?_
            refine kw_goto hB M_occurring_155 ?_
            refine kw_istore_n hB M_occurring_159 rfl (by decide) rfl ?_
            exact b160 al true w hal (by rw [jb_t hm]; rfl)
          · refine kw_iload_n hB M_occurring_136 rfl ?_
            refine kn_if_eq hB M_occurring_137 (by cases al <;> decide) (fun ha => ?_) (fun ha => ?_)
            · refine kw_iconst hB M_occurring_158 (v := nI 0) (by decide) ?_
              refine kw_istore_n hB M_occurring_159 rfl (by decide) rfl ?_
              exact b160 al false w hal (by rw [jb_f hm, jb_f ha]; rfl)
            · refine kw_aload_n hB M_occurring_140 rfl ?_
              refine kw_getf hB M_occurring_141 f_M_56 y1.1 rfl ?_
              refine kw_aload_n hB M_occurring_144 rfl ?_
              refine kw_getf hB M_occurring_145 f_M_53 y1.1 rfl ?_
              refine kw_iload_n hB M_occurring_148 rfl ?_
              refine kn_iald hB M_occurring_149 y1.2.2.2.2.1 rfl (by omega) (by decide) ?_
              rw [hli q hin]
              refine kn_iald hB M_occurring_150 y1.2.2.2.2.2.1 rfl hkl (by decide) ?_
              rw [y2 q hin]
              refine kn_if_ne hB M_occurring_151 (by cases lv1 (key q) <;> decide) (fun hl => ?_) (fun hl => ?_)
              · refine kw_iconst hB M_occurring_158 (v := nI 0) (by decide) ?_
                refine kw_istore_n hB M_occurring_159 rfl (by decide) rfl ?_
                exact b160 al false w hal (by rw [jb_f hm, jb_t hl, Bool.not_true, Bool.and_false]; rfl)
              · refine kw_iconst hB M_occurring_154 (v := nI 1) (by decide) ?_
                refine kw_goto hB M_occurring_155 ?_
                refine kw_istore_n hB M_occurring_159 rfl (by decide) rfl ?_
                exact b160 al true w hal (by rw [jb_f hm, jb_f hl, jb_t ha]; rfl)
        have letters : ∀ r t (al : Bool), t + r = 8 → (al = true ↔ lv1 (key q) = true ∨ ∃ x, 1 ≤ x ∧ x ≤ t ∧ lv1 (nxt (key q) x) = true) → K 88 [.ref 145, .int (nI mo.toNat), .int (nI q), .int (nI al.toNat), .int (nI (t + 1))] [] Y 0 0 := by
          intro r
          induction r with
          | zero =>
            intro t al ht hal
            refine kw_iload hB M_occurring_88 rfl ?_
            refine kw_bipush hB M_occurring_90 (v := nI 8) (by decide) ?_
            refine kn_icmp_gt hB M_occurring_92 (by omega) (by decide) (fun _ => ?_) (fun z => absurd z (by omega))
            rw [show t = 8 by omega] at hal
            exact b132 al _ hal
          | succ r ihr =>
            intro t al ht hal
            refine kw_iload hB M_occurring_88 rfl ?_
            refine kw_bipush hB M_occurring_90 (v := nI 8) (by decide) ?_
            refine kn_icmp_gt hB M_occurring_92 (by omega) (by decide) (fun z => absurd z (by omega)) (fun _ => ?_)
            refine kw_iload_n hB M_occurring_95 rfl ?_
            refine kn_if_ne hB M_occurring_96 (by cases al <;> decide) (fun ha => ?_) (fun ha => ?_)
            · refine b132 al _ ⟨fun z => ?_, fun _ => jb_t ha⟩
              rcases hal.mp z with q1 | ⟨x, q1, q2, q3⟩
              · exact Or.inl q1
              · exact Or.inr ⟨x, q1, by omega, q3⟩
            · have ha := jb_f ha
              refine kw_aload_n hB M_occurring_99 rfl ?_
              refine kw_getf hB M_occurring_100 f_M_56 y1.1 rfl ?_
              refine kw_aload_n hB M_occurring_103 rfl ?_
              refine kw_aload_n hB M_occurring_104 rfl ?_
              refine kw_getf hB M_occurring_105 f_M_53 y1.1 rfl ?_
              refine kw_iload_n hB M_occurring_108 rfl ?_
              refine kn_iald hB M_occurring_109 y1.2.2.2.2.1 rfl (by omega) (by decide) ?_
              rw [hli q hin]
              refine kw_iload hB M_occurring_110 rfl ?_
              refine kw_callV hB M_occurring_112 s_M_180 im_M_next se_M_next y1.1 rfl rfl (As := [.int (nI (key q)), .int (nI (t + 1))]) (hk3 (key q) (t + 1) hVi (by omega) (by omega)) rfl (by decide) (Nat.le_of_ble_eq_true rfl) (by omega) (by omega) (fun r X1 hq hl => ?_)
              obtain ⟨rfl, hxeq⟩ := hq
              obtain rfl := hxeq.symm
              refine kn_iald hB M_occurring_115 y1.2.2.2.2.2.1 rfl (v2 _ (v1 _ _ hVi (by omega) (by omega))) (by decide) ?_
              rw [sen (t + 1) (by omega) (by omega)]
              refine kw_iconst hB M_occurring_116 (v := nI 1) (by decide) ?_
              have nx : ∀ al2 : Bool, al2 = lv1 (nxt (key q) (t + 1)) → (al2 = true ↔ lv1 (key q) = true ∨ ∃ x, 1 ≤ x ∧ x ≤ t + 1 ∧ lv1 (nxt (key q) x) = true) := fun al2 h2 => by
                rw [h2]
                constructor
                · intro z; exact Or.inr ⟨t + 1, by omega, by omega, z⟩
                · rintro (z | ⟨x, q1, q2, q3⟩)
                  · rw [hal.mpr (Or.inl z)] at ha; cases ha
                  · by_cases hxt : x = t + 1
                    · subst hxt; exact q3
                    · rw [hal.mpr (Or.inr ⟨x, q1, by omega, q3⟩)] at ha; cases ha
              refine kn_icmp_ne hB M_occurring_117 (by cases lv1 (nxt (key q) (t + 1)) <;> decide) (by decide) (fun hz => ?_) (fun hz => ?_)
              · refine kw_iconst hB M_occurring_124 (v := nI 0) (by decide) ?_
                refine kw_istore_n hB M_occurring_125 rfl (by decide) rfl ?_
                refine kn_iinc hB M_occurring_126 rfl (by decide) rfl ?_
                refine kw_goto hB M_occurring_129 ?_
                exact ihr (t + 1) false (by omega) (nx false (by cases hb : lv1 (nxt (key q) (t + 1)); rfl; rw [hb] at hz; exact absurd rfl hz))
              · refine kw_iconst hB M_occurring_120 (v := nI 1) (by decide) ?_
                refine kw_goto hB M_occurring_121 ?_
                refine kw_istore_n hB M_occurring_125 rfl (by decide) rfl ?_
                refine kn_iinc hB M_occurring_126 rfl (by decide) rfl ?_
                refine kw_goto hB M_occurring_129 ?_
                exact ihr (t + 1) true (by omega) (nx true (by cases hb : lv1 (nxt (key q) (t + 1)); rw [hb] at hz; exact absurd hz (by decide); rfl))
        refine kw_iload_n hB M_occurring_60 rfl ?_
        refine kw_if_lt hB M_occurring_61 (fun z => absurd z (nI_pos (by omega))) (fun _ => ?_)
        refine kw_aload_n hB M_occurring_64 rfl ?_
        refine kw_getf hB M_occurring_65 f_M_56 y1.1 rfl ?_
        refine kw_aload_n hB M_occurring_68 rfl ?_
        refine kw_getf hB M_occurring_69 f_M_53 y1.1 rfl ?_
        refine kw_iload_n hB M_occurring_72 rfl ?_
        refine kn_iald hB M_occurring_73 y1.2.2.2.2.1 rfl (by omega) (by decide) ?_
        rw [hli q hin]
        refine kn_iald hB M_occurring_74 y1.2.2.2.2.2.1 rfl hkl (by decide) ?_
        rw [y2 q hin]
        refine kw_iconst hB M_occurring_75 (v := nI 1) (by decide) ?_
        have l0 : ∀ al : Bool, al = lv1 (key q) → (al = true ↔ lv1 (key q) = true ∨ ∃ x, 1 ≤ x ∧ x ≤ 0 ∧ lv1 (nxt (key q) x) = true) := fun al h2 => by
          rw [h2]; exact ⟨Or.inl, fun z => z.elim id (fun ⟨x, q1, q2, _⟩ => by omega)⟩
        refine kn_icmp_ne hB M_occurring_76 (by cases lv1 (key q) <;> decide) (by decide) (fun hz => ?_) (fun hz => ?_)
        · refine kw_iconst hB M_occurring_83 (v := nI 0) (by decide) ?_
          refine kw_istore_n hB M_occurring_84 rfl (by decide) rfl ?_
          refine kw_iconst hB M_occurring_85 (v := nI 1) (by decide) ?_
          refine kw_istore hB M_occurring_86 (by decide) rfl ?_
          exact letters 8 0 false (by omega) (l0 false (by cases hb : lv1 (key q); rfl; rw [hb] at hz; exact absurd rfl hz))
        · refine kw_iconst hB M_occurring_79 (v := nI 1) (by decide) ?_
          refine kw_goto hB M_occurring_80 ?_
          refine kw_istore_n hB M_occurring_84 rfl (by decide) rfl ?_
          refine kw_iconst hB M_occurring_85 (v := nI 1) (by decide) ?_
          refine kw_istore hB M_occurring_86 (by decide) rfl ?_
          exact letters 8 0 true (by omega) (l0 true (by cases hb : lv1 (key q); rw [hb] at hz; exact absurd hz (by decide); rfl))
    have hn1 := hx.1
    refine kw_iload_n hB M_occurring_47 rfl ?_
    refine kn_if_eq hB M_occurring_48 (by decide) (fun z => absurd z (by decide)) (fun _ => ?_)
    refine kw_iconst hB M_occurring_51 (v := nI 0) (by decide) ?_
    refine kw_istore_n hB M_occurring_52 rfl (by decide) rfl ?_
    refine kw_aload_n hB M_occurring_53 rfl ?_
    refine kw_getf hB M_occurring_54 f_M_174 e1.1 rfl ?_
    rw [hn]
    refine kw_iconst hB M_occurring_57 (v := nI 1) (by decide) ?_
    refine kn_isub hB M_occurring_58 (by omega) ?_
    refine kw_istore_n hB M_occurring_59 rfl (by decide) rfl ?_
    exact row n (nI (n - 1)) lv0 false se0 Y0 _ _ (Nat.le_refl _) (fun _ => rfl) (fun z => by omega) e1 e2 e3 (fun _ _ z => z) (fun _ => ⟨fun _ _ => rfl, fun j h1 h2 => absurd h2 (by omega)⟩) (fun z => (by cases z)) hf
  have whiles : ∀ p (lv : Nat → Bool) (se' : Nat → Int32) (Y : ja_H) (b c d : Value), n - jcn lv key n ≤ p → jEr Y s st gd tb li se' el er cs ct → (∀ i, i < n → se' (key i) = nI (lv (key i)).toNat) → (∀ i, i < n → lv (key i) = true → jLive nxt acc (key i)) → (∀ i, i < n → acc (key i) = true → lv (key i) = true) → jfr [161] X Y → K 47 [.ref 145, .int (nI 1), b, c, d] [] Y 0 0 := by
    intro p
    induction p with
    | zero =>
      intro lv se' Y b c d hp e1 e2 e3 e4 hf
      refine pass lv b c d se' Y e1 e2 e3 e4 hf (fun lv1 se1 Z b c d hlt z1 z2 z3 z4 zf => ?_)
      have := jcn_le lv1 key n
      omega
    | succ p ih =>
      intro lv se' Y b c d hp e1 e2 e3 e4 hf
      refine pass lv b c d se' Y e1 e2 e3 e4 hf (fun lv1 se1 Z b c d hlt z1 z2 z3 z4 zf => ?_)
      have := jcn_le lv1 key n
      exact ih lv1 se1 Z b c d (by omega) z1 z2 z3 z4 zf
  -- the first signs
  have first : ∀ p i (se' : Nat → Int32) (Y : ja_H) (c d : Value), i + p = n → jEr Y s st gd tb li se' el er cs ct → (∀ i', i' < i → se' (key i') = nI (acc (key i')).toNat) → jfr [161] X Y → K 4 [.ref 145, .int (nI 1), .int (nI i), c, d] [] Y 0 0 := by
    intro p
    induction p with
    | zero =>
      intro i se' Y c d hi e1 e2 hf
      refine kw_iload_n hB M_occurring_4 rfl ?_
      refine kw_aload_n hB M_occurring_5 rfl ?_
      refine kw_getf hB M_occurring_6 f_M_174 e1.1 rfl ?_
      rw [hn]
      refine kn_icmp_ge hB M_occurring_9 (by omega) (by omega) (fun _ => ?_) (fun z => absurd z (by omega))
      exact whiles n acc se' Y _ _ _ (by omega) e1 (fun i' hi' => e2 i' (by omega)) (fun i' _ ha => ⟨[], fun _ z => (by cases z), ha⟩) (fun _ _ z => z) hf
    | succ p ih =>
      intro i se' Y c d hi e1 e2 hf
      have hin : i < n := by omega
      have hVi := hx.2.2.1 i hin
      obtain ⟨-, hk2, -⟩ := hX Y s st gd tb e1.tr hs (fun _ _ => rfl) (fun _ _ => rfl) (fun _ _ => rfl)
      refine kw_iload_n hB M_occurring_4 rfl ?_
      refine kw_aload_n hB M_occurring_5 rfl ?_
      refine kw_getf hB M_occurring_6 f_M_174 e1.1 rfl ?_
      rw [hn]
      refine kn_icmp_ge hB M_occurring_9 (by omega) (by omega) (fun z => absurd z (by omega)) (fun _ => ?_)
      refine kw_aload_n hB M_occurring_12 rfl ?_
      refine kw_getf hB M_occurring_13 f_M_56 e1.1 rfl ?_
      refine kw_aload_n hB M_occurring_16 rfl ?_
      refine kw_getf hB M_occurring_17 f_M_53 e1.1 rfl ?_
      refine kw_iload_n hB M_occurring_20 rfl ?_
      refine kn_iald hB M_occurring_21 e1.2.2.2.2.1 rfl (by omega) (by decide) ?_
      rw [hli i hin]
      refine kw_aload_n hB M_occurring_22 rfl ?_
      refine kw_aload_n hB M_occurring_23 rfl ?_
      refine kw_getf hB M_occurring_24 f_M_53 e1.1 rfl ?_
      refine kw_iload_n hB M_occurring_27 rfl ?_
      refine kn_iald hB M_occurring_28 e1.2.2.2.2.1 rfl (by omega) (by decide) ?_
      rw [hli i hin]
      refine kw_callV hB M_occurring_29 s_M_177 im_M_mayEnd se_M_mayEnd e1.1 rfl rfl (As := [.int (nI (key i))]) (hk2 _ hVi) rfl (by decide) (Nat.le_of_ble_eq_true rfl) (by omega) (by omega) (fun r X1 hq hl => ?_)
      obtain ⟨rfl, hxeq⟩ := hq
      obtain rfl := hxeq.symm
      have tail : ∀ b0 : Bool, b0 = acc (key i) → K 40 [.ref 145, .int (nI 1), .int (nI i), c, d] [.int (nI b0.toNat), .int (nI (key i)), .ref 161] Y 0 0 := by
        intro b0 hb0
        refine kn_iast hB M_occurring_40 e1.2.2.2.2.2.1 rfl (v2 _ hVi) (by decide) ?_
        refine kn_iinc hB M_occurring_41 rfl (by decide) rfl ?_
        refine kw_goto hB M_occurring_44 ?_
        refine ih (i + 1) _ _ _ _ (by omega) (e1.s_se (f' := upd se' (key i) (nI b0.toNat))) (fun i' hi' => ?_) (hf.tr (f161 Y _))
        by_cases z : i' = i
        · subst z; rw [pk_us, hb0]
        · rw [pk_un (fun k => z (hx.2.2.2.1 i' i (by omega) hin k))]; exact e2 i' (by omega)
      refine kn_if_eq hB M_occurring_32 (by cases acc (key i) <;> decide) (fun hz => ?_) (fun hz => ?_)
      · refine kw_iconst hB M_occurring_39 (v := nI 0) (by decide) ?_
        exact tail false (jb_f hz).symm
      · refine kw_iconst hB M_occurring_35 (v := nI 1) (by decide) ?_
        refine kw_goto hB M_occurring_36 ?_
        exact tail true (jb_t hz).symm
  refine kw_iconst hB M_occurring_0 (v := nI 1) (by decide) ?_
  refine kw_istore_n hB M_occurring_1 rfl (by decide) rfl ?_
  refine kw_iconst hB M_occurring_2 (v := nI 0) (by decide) ?_
  refine kw_istore_n hB M_occurring_3 rfl (by decide) rfl ?_
  exact first n 0 se X _ _ (by omega) h (fun i' hi' => absurd hi' (by omega)) (jfr.rf _ _)
end JMO
