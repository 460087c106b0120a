-- the model: set, get, join, apply, sink, when, loop, other, end, clear
theorem jMe.sc {S : List Nat} {X Y : ja_H} {sc sc' : Nat → Int32} {f : Nat → Option jLan} (h : jMe X sc f) (hc : Y[145]? = some (jMo sc')) (hf : jfr S X Y) (hS : ∀ k ∈ S, k < 155 ∨ 165 < k) : jMe Y sc' f := by
  obtain ⟨st, gd, tb, li, se, el, er, cs, ct, ⟨h0, h1, h2, h3, h4, h5, h6, h7, h8, h9⟩, ht⟩ := h
  have no : ∀ j, 155 ≤ j ∧ j ≤ 165 → j ∉ S := fun j hj z => by have := hS j z; omega
  exact ⟨st, gd, tb, li, se, el, er, cs, ct, ⟨hc, hf.at (no _ (by decide)) h1, hf.at (no _ (by decide)) h2, hf.at (no _ (by decide)) h3, hf.at (no _ (by decide)) h4, hf.at (no _ (by decide)) h5, hf.at (no _ (by decide)) h6, hf.at (no _ (by decide)) h7, hf.at (no _ (by decide)) h8, hf.at (no _ (by decide)) h9⟩, ht⟩
def jHd (st : List (Nat × Nat)) : Nat := match st with
  | [] => 0
  | x :: _ => x.1
section JML2
variable (l : Launch) (D : va_G) (g : Nat × Nat) {X Y : ja_H} {n s : Nat} {K V A B M L : Nat → Nat} {σ : Nat → List (Nat × Nat)} {md : Bool} {ip wd pl : Nat → Nat} {hn : Nat} {ed : Int32}
/-- behind a call that adds a line, if ok says so -/
def jAdM (X : ja_H) (n s : Nat) (K V A B M L : Nat → Nat) (σ : Nat → List (Nat × Nat)) (ip wd pl : Nat → Nat) (hn : Nat) (ed : Int32) (ok : Bool) (k v a b : Nat) (r : Option Value) (X' : ja_H) : Prop :=
  (ok = true → n < 24 → r = some (.int (nI (n + 1))) ∧ jMdl X' (n + 1) (if k = 4 then s + 1 else s) (va_up K n k) (va_up V n v) (va_up A n a) (va_up B n b) (jNM M (σ n) k n) (jNL L (σ n) k n) (va_up σ (n + 1) (jNx (σ n) k n)) false ip wd pl hn ed ∧ jfr jMS X X') ∧ (ok = false ∨ n = 24 → r = some (.int (-1)) ∧ X' = X)
theorem jAdM_no {ok : Bool} {k v a b : Nat} (h : ok = false ∨ n = 24) : jAdM X n s K V A B M L σ ip wd pl hn ed ok k v a b (some (.int (-1))) X := ⟨fun z hn => by rcases h with h | h; rw [z] at h; cases h; omega, fun _ => ⟨rfl, rfl⟩⟩
theorem jAdM_go {S : List Nat} {ok : Bool} {k v a b : Nat} {sc sc' wh on tw th dp bg ol el bk mf rn fa : Nat → Int32} {f : Nat → Option jLan} (he : jMe X sc f) (h1 : X[158]? = some (.inl (0, 24, .inl mf))) (h2 : X[159]? = some (.inl (0, 3, .inl rn))) (h3 : X[166]? = some (.inl (0, 96, .inl fa))) (hi : jMi X ip wd pl hn) (hP : jPP n s K V A B M L σ) (hn24 : n < 24) (hok : ok = true) (hm : jMay K (σ n) k) (hk10 : k < 10)
    (hl : ∀ i, i < n → wh i = nI (if K i = 9 then 8 else K i) ∧ on i = nI (V i) ∧ tw i = nI (A i) ∧ th i = nI (B i) ∧ dp i = nI (if 8 ≤ K i then (σ i).length - 1 else (σ i).length) ∧ (K i = 6 ∨ 8 ≤ K i → ∀ x t, σ i = x :: t → bg i = nI x.1) ∧ (8 ≤ K i → ∀ x t, σ i = x :: t → el x.1 = nI i) ∧ (K i = 8 → ∀ x t, σ i = x :: t → ol x.1 = if x.2 = x.1 then -1 else nI x.2))
    (ho : ∀ x, x ∈ σ n → K x.1 = 5 → ol x.1 = if x.2 = x.1 then -1 else nI x.2) (hb : ∀ a x t, σ n = a ++ x :: t → bk t.length = nI x.1)
    (hX : jPa Y (upd wh n (nI (if k = 9 then 8 else k))) (upd on n (nI v)) (upd tw n (nI a)) (upd th n (nI b)) (upd dp n (nI (if 8 ≤ k then (σ n).length - 1 else (σ n).length))) (if k = 6 ∨ 8 ≤ k then upd bg n (nI (jHd (σ n))) else bg) (upd (if k = 6 then upd ol (jHd (σ n)) (nI n) else ol) n (-1)) (upd (if 8 ≤ k then upd el (jHd (σ n)) (nI n) else el) n (-1)) (if k = 5 ∨ k = 7 then upd bk (σ n).length (nI n) else bk))
    (hc : Y[145]? = some (jMo sc')) (q0 : sc' 0 = nI (n + 1)) (q10 : sc' 10 = nI (if k ≤ 4 ∨ k = 6 then (σ n).length else if k = 5 ∨ k = 7 then (σ n).length + 1 else (σ n).length - 1)) (q11 : sc' 11 = nI (if k = 4 then s + 1 else s)) (q15 : sc' 15 = nI 0) (q38 : sc' 38 = ed) (q39 : sc' 39 = nI hn) (hf : jfr S X Y) (hS : ∀ k ∈ S, 145 ≤ k ∧ k < 155) :
    jAdM X n s K V A B M L σ ip wd pl hn ed ok k v a b (some (.int (nI (n + 1)))) Y := by
  have no : ∀ j, 155 ≤ j → j ∉ S := fun j hj z => by have := hS j z; omega
  refine ⟨fun _ _ => ⟨rfl, ⟨sc', f, mf, rn, fa, he.sc hc hf (fun k hk => by have := hS k hk; omega), ⟨q0, ?_, q11, q15, q38, q39⟩, ?_, hf.at (no _ (by decide)) h1, hf.at (no _ (by decide)) h2, hf.at (no _ (by decide)) h3, hi.fr hf (fun k hk => by have := hS k hk; omega), fun z => by cases z⟩, hf.mono (fun k hk => jMS_mem.mpr (by have := hS k hk; omega))⟩, fun z => ?_⟩
  · rw [jup_self, q10, jnx_len (fun z => by obtain ⟨h, t, e, -⟩ := hm.2.1 z; exact ⟨h, t, e⟩) hk10]
  · exact jMp_add hP hm hk10 hl ho hb (fun x t e => by rw [e]; rfl) hX
  · rcases z with z | z
    · rw [hok] at z; cases z
    · omega
set_option maxHeartbeats 4000000 in
set_option maxRecDepth 100000 in
theorem c_M_noConstant {x : Int32} : AMet l D g 0 0 0 m_M_noConstant [.int x] X (fun r X' => r = some (.int (nI (!jokc x).toNat)) ∧ X' = X) := by
  refine ja_metK (by decide) rfl (Nat.le_of_ble_eq_true rfl) fun K hB hF => ?_
  have yes : ∀ (u w : Value), jokc x = false → K 55 [.int x, u, w] [] X 0 0 := by
    intro u w h
    refine kw_iconst hB M_noConstant_55 (v := nI 1) (by decide) ?_
    refine kw_goto hB M_noConstant_56 ?_
    refine kw_zret hF rfl (by first | rfl | decide) M_noConstant_60 ?_ (by first | (simp [jLs_len]; done) | (simp [*]; done))
    exact ⟨by rw [h]; rfl, rfl⟩
  by_cases hx : x < 0
  · have hno : jokc x = false := by
      cases h : jokc x with
      | false => rfl
      | true =>
        obtain ⟨e1, -, e2⟩ := jokc_v h
        rw [e1] at hx
        exact absurd hx (nI_pos (by omega))
    have hle : x ≤ 0 := Int32.le_of_lt hx
    refine kw_iload_n hB M_noConstant_0 rfl ?_
    refine kw_istore_n hB M_noConstant_1 rfl (by decide) rfl ?_
    refine kw_iconst hB M_noConstant_2 (v := nI 0) (by decide) ?_
    refine kw_istore_n hB M_noConstant_3 rfl (by decide) rfl ?_
    refine kw_iload_n hB M_noConstant_4 rfl ?_
    refine kw_if_le hB M_noConstant_5 (fun _ => ?_) (fun z => absurd hle z)
    refine kw_iload_n hB M_noConstant_41 rfl ?_
    refine kw_if_lt hB M_noConstant_42 (fun _ => yes _ _ hno) (fun z => absurd hx z)
  · obtain ⟨c, hc, rfl⟩ := nI_of hx
    have ec : jcw (nI c) = c := by
      have e : ((nI c).toInt64).toInt = c := by rw [Int32.toInt_toInt64, nI_toInt hc]
      have h1 : jcw (nI c) = ((nI c).toInt64).toBitVec.toNat := rfl
      have h2 := BitVec.toInt_eq_toNat_cond ((nI c).toInt64).toBitVec
      have h3 : ((nI c).toInt64).toBitVec.toInt = (c : Int) := e
      rw [h3] at h2
      have h4 := ((nI c).toInt64).toBitVec.isLt
      rw [h1]
      split at h2 <;> omega
    have hj : jokc (nI c) = jokw 6 4 c := by unfold jokc; rw [ec]
    -- behind the digits
    have out : ∀ r m, r < 2 ^ 31 → m ≤ 7 → (jokc (nI c) = true ↔ r = 0 ∧ m ≤ 6) → K 41 [.int (nI c), .int (nI r), .int (nI m)] [] X 0 0 := by
      intro r m hr hm hi
      refine kw_iload_n hB M_noConstant_41 rfl ?_
      refine kw_if_lt hB M_noConstant_42 (fun z => absurd z hx) (fun _ => ?_)
      refine kw_iload_n hB M_noConstant_45 rfl ?_
      refine kw_if_gt hB M_noConstant_46 (fun z => yes _ _ ?_) (fun z => ?_)
      · have : ¬ r = 0 := fun w => by subst w; exact absurd z (by decide)
        cases h : jokc (nI c) with
        | false => rfl
        | true => exact absurd (hi.mp h).1 this
      · have h0 : r = 0 := by
          refine Classical.byContradiction fun w => z ?_
          exact (nI_ltI (a := 0) (by decide) hr).mpr (by omega)
        refine kw_iload_n hB M_noConstant_49 rfl ?_
        refine kw_bipush hB M_noConstant_50 (v := nI 6) (by decide) ?_
        refine kn_icmp_le hB M_noConstant_52 (by omega) (by decide) (fun z2 => ?_) (fun z2 => yes _ _ ?_)
        · refine kw_iconst hB M_noConstant_59 (v := nI 0) (by decide) ?_
          refine kw_zret hF rfl (by first | rfl | decide) M_noConstant_60 ?_ (by first | (simp [jLs_len]; done) | (simp [*]; done))
          exact ⟨by rw [hi.mpr ⟨h0, z2⟩]; rfl, rfl⟩
        · cases h : jokc (nI c) with
          | false => rfl
          | true => have := (hi.mp h).2; omega
    have loop : ∀ p r m, m + p = 7 → r < 2 ^ 31 → (jokc (nI c) = if p = 0 then false else jokw (p - 1) 4 r) → K 4 [.int (nI c), .int (nI r), .int (nI m)] [] X 0 0 := by
      intro p
      induction p with
      | zero =>
        intro r m hm hr hi
        rw [if_pos rfl] at hi
        have no : K 41 [.int (nI c), .int (nI r), .int (nI m)] [] X 0 0 := out r m hr (by omega) ⟨fun z => (by rw [hi] at z; cases z), fun z => by omega⟩
        refine kw_iload_n hB M_noConstant_4 rfl ?_
        refine kw_if_le hB M_noConstant_5 (fun _ => no) (fun _ => ?_)
        refine kw_iload_n hB M_noConstant_8 rfl ?_
        refine kw_bipush hB M_noConstant_9 (v := nI 16) (by decide) ?_
        refine kn_irem hB M_noConstant_11 (by omega) (by decide) (by decide) ?_
        refine kw_iconst hB M_noConstant_12 (v := nI 1) (by decide) ?_
        refine kn_icmp_lt hB M_noConstant_13 (by omega) (by decide) (fun _ => no) (fun _ => ?_)
        refine kw_iload_n hB M_noConstant_16 rfl ?_
        refine kw_bipush hB M_noConstant_17 (v := nI 16) (by decide) ?_
        refine kn_irem hB M_noConstant_19 (by omega) (by decide) (by decide) ?_
        refine kw_iconst hB M_noConstant_20 (v := nI 4) (by decide) ?_
        refine kn_icmp_gt hB M_noConstant_21 (by omega) (by decide) (fun _ => no) (fun _ => ?_)
        refine kw_iload_n hB M_noConstant_24 rfl ?_
        refine kw_bipush hB M_noConstant_25 (v := nI 7) (by decide) ?_
        refine kn_icmp_ge hB M_noConstant_27 (by omega) (by decide) (fun _ => no) (fun z => absurd z (by omega))
      | succ p ih =>
        intro r m hm hr hi
        rw [if_neg (by omega), show p + 1 - 1 = p from rfl] at hi
        refine kw_iload_n hB M_noConstant_4 rfl ?_
        refine kw_if_le hB M_noConstant_5 (fun z => ?_) (fun z => ?_)
        · have h0 : r = 0 := by
            have := (nI_leI (b := 0) hr (by decide)).mp z
            omega
          refine out r m hr (by omega) ⟨fun _ => ⟨h0, by omega⟩, fun _ => ?_⟩
          rw [hi, h0]
          cases p <;> rfl
        · have h0 : r ≠ 0 := fun w => by subst w; exact z (by decide)
          have bad : ¬ (1 ≤ r % 16 ∧ r % 16 ≤ 4) → K 41 [.int (nI c), .int (nI r), .int (nI m)] [] X 0 0 := fun hb => out r m hr (by omega) ⟨fun w => (by
            rw [hi] at w
            cases p with
            | zero => exact absurd (by simpa [jokw] using w) h0
            | succ p => simp [jokw, h0, hb] at w), fun w => absurd w.1 h0⟩
          refine kw_iload_n hB M_noConstant_8 rfl ?_
          refine kw_bipush hB M_noConstant_9 (v := nI 16) (by decide) ?_
          refine kn_irem hB M_noConstant_11 (by omega) (by decide) (by decide) ?_
          refine kw_iconst hB M_noConstant_12 (v := nI 1) (by decide) ?_
          refine kn_icmp_lt hB M_noConstant_13 (by omega) (by decide) (fun w => bad (by omega)) (fun w1 => ?_)
          refine kw_iload_n hB M_noConstant_16 rfl ?_
          refine kw_bipush hB M_noConstant_17 (v := nI 16) (by decide) ?_
          refine kn_irem hB M_noConstant_19 (by omega) (by decide) (by decide) ?_
          refine kw_iconst hB M_noConstant_20 (v := nI 4) (by decide) ?_
          refine kn_icmp_gt hB M_noConstant_21 (by omega) (by decide) (fun w => bad (by omega)) (fun w2 => ?_)
          refine kw_iload_n hB M_noConstant_24 rfl ?_
          refine kw_bipush hB M_noConstant_25 (v := nI 7) (by decide) ?_
          refine kn_icmp_ge hB M_noConstant_27 (by omega) (by decide) (fun w => absurd w (by omega)) (fun _ => ?_)
          refine kw_iload_n hB M_noConstant_30 rfl ?_
          refine kw_bipush hB M_noConstant_31 (v := nI 16) (by decide) ?_
          refine kn_idiv hB M_noConstant_33 (by omega) (by decide) (by decide) ?_
          refine kw_istore_n hB M_noConstant_34 rfl (by decide) rfl ?_
          refine kn_iinc hB M_noConstant_35 rfl (by decide) rfl ?_
          refine kw_goto hB M_noConstant_38 ?_
          refine ih (r / 16) (m + 1) (by omega) (by omega) ?_
          rw [hi]
          cases p with
          | zero => simp [jokw, h0]
          | succ p => simp [jokw, h0, w1, w2]
    refine kw_iload_n hB M_noConstant_0 rfl ?_
    refine kw_istore_n hB M_noConstant_1 rfl (by decide) rfl ?_
    refine kw_iconst hB M_noConstant_2 (v := nI 0) (by decide) ?_
    refine kw_istore_n hB M_noConstant_3 rfl (by decide) rfl ?_
    exact loop 7 c 0 (by omega) hc (by rw [if_neg (by decide), hj])
end JML2
