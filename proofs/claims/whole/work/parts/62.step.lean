-- the analysis as steps: at, rounds, now, before, brought, sinks
abbrev jSt : Type := Nat × (Nat → Nat) × (Nat → jLan) × (Nat → Option jLan) × (Nat → Option jLan) × (Nat → Option jLan)
def jBf (bf : Nat → Option jLan) (l v : Nat) : jLan := (bf (l * 5 + v)).getD jEmp
noncomputable def jGo (K V A B M L : Nat → Nat) (i : Nat) (rd : Nat → Nat) (nw : Nat → jLan) (bf bg sk : Nat → Option jLan) : jSt :=
  if K i = 4 then (i + 1, rd, nw, bf, bg, va_up sk (A i) (some (nw (V i))))
  else if K i = 5 then (i + 1, rd, jKp nw (V i) (A i) (B i) true, jPut bf (L i * 5) 5 nw, bg, sk)
  else if K i = 6 then (i + 1, rd, jKp (jBf bf (L (M (M i)))) (V (M (M i))) (A (M (M i))) (B (M (M i))) false, bf, jPut bg (L (M (M i)) * 5) 5 nw, sk)
  else if K i = 7 then (i + 1, va_up rd i 0, jKp nw (V i) (A i) (B i) true, jPut bf (L i * 5) 5 nw, bg, sk)
  else if K i = 8 then
    if M (M i) = i then (i + 1, rd, fun v => jUni (jKp (jBf bf (L (M i))) (V (M i)) (A (M i)) (B (M i)) false v) (nw v), bf, jPut bg (L (M i) * 5) 5 nw, sk)
    else (i + 1, rd, fun v => jUni (nw v) (jBf bg (L i) v), bf, bg, sk)
  else if K i = 9 then (if jDn nw (jBf bf (L (M i))) 5 then i + 1 else M i + 1, va_up rd (M i) (rd (M i) + 1), jKp (fun v => jCr1 (decide (3 ≤ rd (M i) + 1)) (nw v) (jBf bf (L (M i)) v)) (V (M i)) (A (M i)) (B (M i)) (!jDn nw (jBf bf (L (M i))) 5), jPut bf (L (M i) * 5) 5 (fun v => jCr1 (decide (3 ≤ rd (M i) + 1)) (nw v) (jBf bf (L (M i)) v)), bg, sk)
  else (i + 1, rd, jChg nw (K i) (V i) (A i) (B i), bf, bg, sk)
section JGO
variable {K V A B M L : Nat → Nat} {i : Nat} {rd : Nat → Nat} {nw : Nat → jLan} {bf bg sk : Nat → Option jLan}
theorem jGo_4 (h : K i = 4) : jGo K V A B M L i rd nw bf bg sk = (i + 1, rd, nw, bf, bg, va_up sk (A i) (some (nw (V i)))) := if_pos h
theorem jGo_5 (h : K i = 5) : jGo K V A B M L i rd nw bf bg sk = (i + 1, rd, jKp nw (V i) (A i) (B i) true, jPut bf (L i * 5) 5 nw, bg, sk) := (if_neg (by omega)).trans (if_pos h)
theorem jGo_6 {h0 : Nat} (h : K i = 6) (hm : M (M i) = h0) : jGo K V A B M L i rd nw bf bg sk = (i + 1, rd, jKp (jBf bf (L h0)) (V h0) (A h0) (B h0) false, bf, jPut bg (L h0 * 5) 5 nw, sk) := by
  subst hm
  exact (if_neg (by omega)).trans ((if_neg (by omega)).trans (if_pos h))
theorem jGo_7 (h : K i = 7) : jGo K V A B M L i rd nw bf bg sk = (i + 1, va_up rd i 0, jKp nw (V i) (A i) (B i) true, jPut bf (L i * 5) 5 nw, bg, sk) := (if_neg (by omega)).trans ((if_neg (by omega)).trans ((if_neg (by omega)).trans (if_pos h)))
theorem jGo_8a {h0 : Nat} (h : K i = 8) (hm : M i = h0) (hmm : M h0 = i) : jGo K V A B M L i rd nw bf bg sk = (i + 1, rd, fun v => jUni (jKp (jBf bf (L h0)) (V h0) (A h0) (B h0) false v) (nw v), bf, jPut bg (L h0 * 5) 5 nw, sk) := by
  subst hm
  exact (if_neg (by omega)).trans ((if_neg (by omega)).trans ((if_neg (by omega)).trans ((if_neg (by omega)).trans ((if_pos h).trans (if_pos hmm)))))
theorem jGo_8b {h0 : Nat} (h : K i = 8) (hm : M i = h0) (hmm : M h0 ≠ i) : jGo K V A B M L i rd nw bf bg sk = (i + 1, rd, fun v => jUni (nw v) (jBf bg (L i) v), bf, bg, sk) := by
  subst hm
  exact (if_neg (by omega)).trans ((if_neg (by omega)).trans ((if_neg (by omega)).trans ((if_neg (by omega)).trans ((if_pos h).trans (if_neg hmm)))))
theorem jGo_9 {h0 : Nat} (h : K i = 9) (hm : M i = h0) : jGo K V A B M L i rd nw bf bg sk = (if jDn nw (jBf bf (L h0)) 5 then i + 1 else h0 + 1, va_up rd h0 (rd h0 + 1), jKp (fun v => jCr1 (decide (3 ≤ rd h0 + 1)) (nw v) (jBf bf (L h0) v)) (V h0) (A h0) (B h0) (!jDn nw (jBf bf (L h0)) 5), jPut bf (L h0 * 5) 5 (fun v => jCr1 (decide (3 ≤ rd h0 + 1)) (nw v) (jBf bf (L h0) v)), bg, sk) := by
  subst hm
  exact (if_neg (by omega)).trans ((if_neg (by omega)).trans ((if_neg (by omega)).trans ((if_neg (by omega)).trans ((if_neg (by omega)).trans (if_pos h)))))
theorem jGo_0 (h : K i < 4) : jGo K V A B M L i rd nw bf bg sk = (i + 1, rd, jChg nw (K i) (V i) (A i) (B i), bf, bg, sk) := (if_neg (by omega)).trans ((if_neg (by omega)).trans ((if_neg (by omega)).trans ((if_neg (by omega)).trans ((if_neg (by omega)).trans (if_neg (by omega))))))
end JGO
noncomputable def jStep (n : Nat) (K V A B M L : Nat → Nat) (s : jSt) : jSt := if s.1 < n then jGo K V A B M L s.1 s.2.1 s.2.2.1 s.2.2.2.1 s.2.2.2.2.1 s.2.2.2.2.2 else s
noncomputable def jIt (n : Nat) (K V A B M L : Nat → Nat) (s : jSt) : Nat → jSt
  | 0 => s
  | k + 1 => jStep n K V A B M L (jIt n K V A B M L s k)
def jDs (bf bg : Nat → Option jLan) : List (Nat × Nat) → Prop
  | [] => True
  | (h, p) :: t => (∀ v, v < 5 → (bf (t.length * 5 + v)).isSome = true) ∧ (p ≠ h → ∀ v, v < 5 → (bg (t.length * 5 + v)).isSome = true) ∧ jDs bf bg t
def jGr' (bf bf' : Nat → Option jLan) : Prop := ∀ i, (bf i).isSome = true → (bf' i).isSome = true
theorem jDs_gr {bf bg bf' bg' : Nat → Option jLan} (h1 : jGr' bf bf') (h2 : jGr' bg bg') : ∀ l, jDs bf bg l → jDs bf' bg' l
  | [], _ => trivial
  | (h, p) :: t, ⟨a, b, c⟩ => ⟨fun v hv => h1 _ (a v hv), fun hp v hv => h2 _ (b hp v hv), jDs_gr h1 h2 t c⟩
theorem jPut_gr (bf : Nat → Option jLan) (base m : Nat) (nw : Nat → jLan) : jGr' bf (jPut bf base m nw) := fun i hi => by
  unfold jPut; split
  · rfl
  · exact hi
theorem jPut_in (bf : Nat → Option jLan) {base v : Nat} (nw : Nat → jLan) (hv : v < 5) : jPut bf base 5 nw (base + v) = some (nw v) := by
  unfold jPut; rw [if_pos (by omega), show base + v - base = v by omega]
theorem jBf_put {bf : Nat → Option jLan} {l v : Nat} {nw : Nat → jLan} (hv : v < 5) : jBf (jPut bf (l * 5) 5 nw) l v = nw v := by
  unfold jBf; rw [jPut_in _ _ hv]; rfl
theorem jBf_put_ne {bf : Nat → Option jLan} {l l' v : Nat} {nw : Nat → jLan} (hv : v < 5) (hl : l' ≠ l) : jBf (jPut bf (l * 5) 5 nw) l' v = jBf bf l' v := by
  unfold jBf jPut; rw [if_neg (by omega)]
def jOks (bf : Nat → Option jLan) : Prop := ∀ i L, bf i = some L → jOk L
theorem jOks.put {bf : Nat → Option jLan} (h : jOks bf) {base : Nat} {nw : Nat → jLan} (hn : ∀ v, v < 5 → jOk (nw v)) : jOks (jPut bf base 5 nw) := fun i L e => by
  unfold jPut at e
  split at e
  · rename_i hc; rw [← Option.some.inj e]; exact hn _ (by omega)
  · exact h i L e
theorem jOks.bf {bf : Nat → Option jLan} (h : jOks bf) (l v : Nat) : jOk (jBf bf l v) := by
  unfold jBf
  cases hb : bf (l * 5 + v) with
  | none => exact jEmp_ok
  | some L => exact h _ _ hb
theorem jWid_ok (L : jLan) : jOk (jWid L) := by
  unfold jWid
  split
  · exact jEmp_ok
  · obtain ⟨T, hT⟩ := jLet_ex (jAc L)
    rw [jSet_of hT]
    exact jAllL_ok hT.1
theorem jKp_ok {nw : Nat → jLan} {v k s : Nat} {b : Bool} (hn : ∀ v, v < 5 → jOk (nw v)) : ∀ v', v' < 5 → jOk (jKp nw v k s b v') := fun v' hv' => by
  unfold jKp
  split
  · exact jEmp_ok
  · by_cases h : v' = v
    · subst h; rw [jup_self]; exact jMk_ok _
    · rw [jup_ne h]; exact hn v' hv'
theorem jCr1_ok {w : Bool} {A H : jLan} (hH : jOk H) : jOk (jCr1 w A H) := by
  unfold jCr1
  split
  · exact hH
  · split
    · exact jWid_ok _
    · exact jUni_ok _ _
theorem jChg_ok {nw : Nat → jLan} {k v a b : Nat} (hn : ∀ v, v < 5 → jOk (nw v)) : ∀ v', v' < 5 → jOk (jChg nw k v a b v') := fun v' hv' => by
  unfold jChg
  split
  · exact hn v' hv'
  · by_cases h : v' = v
    · subst h; rw [jup_self]
      unfold jCh1
      split
      · exact jMk_ok _
      · split
        · exact jAllL_ok (by decide)
        · split
          · exact jMk_ok _
          · exact jMk_ok _
    · rw [jup_ne h]; exact hn v' hv'
/-- what holds all along; hw: all lines below it have been passed -/
def jDI (n : Nat) (K A : Nat → Nat) (σ : Nat → List (Nat × Nat)) (s : jSt) (hw : Nat) : Prop :=
  s.1 ≤ n ∧ s.1 ≤ hw ∧ hw ≤ n ∧ jDs s.2.2.2.1 s.2.2.2.2.1 (σ s.1) ∧ (∀ v, v < 5 → jOk (s.2.2.1 v)) ∧ jOks s.2.2.2.1 ∧ jOks s.2.2.2.2.1 ∧ jOks s.2.2.2.2.2 ∧ ∀ j, j < hw → K j = 4 → (s.2.2.2.2.2 (A j)).isSome = true
/-- how much is still to do -/
def jPhi (n : Nat) (E : Nat → Nat) (r : Nat → Nat → Nat) : List (Nat × Nat) → Nat → Nat
  | [], pos => (n - pos) * 117649
  | (h, _) :: t, pos => (r h t.length * (E h - h) + (E h + 1 - pos)) * 49 ^ (2 - t.length) + jPhi n E r t (E h + 1)
def jLim (n : Nat) (E : Nat → Nat) : List (Nat × Nat) → Nat
  | [] => n
  | (h, _) :: _ => E h + 1
theorem jPhi_move {n : Nat} {E : Nat → Nat} {r : Nat → Nat → Nat} {l : List (Nat × Nat)} {a b : Nat} (hab : a ≤ b) (hb : b ≤ jLim n E l) : jPhi n E r l a = jPhi n E r l b + (b - a) * 49 ^ (3 - l.length) := by
  cases l with
  | nil =>
    show (n - a) * 117649 = (n - b) * 117649 + (b - a) * 117649
    have hb : b ≤ n := hb
    omega
  | cons x t =>
    have hb : b ≤ E x.1 + 1 := hb
    show (r x.1 t.length * (E x.1 - x.1) + (E x.1 + 1 - a)) * 49 ^ (2 - t.length) + jPhi n E r t (E x.1 + 1) = (r x.1 t.length * (E x.1 - x.1) + (E x.1 + 1 - b)) * 49 ^ (2 - t.length) + jPhi n E r t (E x.1 + 1) + (b - a) * 49 ^ (3 - (t.length + 1))
    rw [show 3 - (t.length + 1) = 2 - t.length by omega, show E x.1 + 1 - a = (E x.1 + 1 - b) + (b - a) by omega, ← Nat.add_assoc, Nat.add_mul (r x.1 t.length * (E x.1 - x.1) + (E x.1 + 1 - b))]
    omega
theorem jPhi_congr {n : Nat} {E : Nat → Nat} {r r' : Nat → Nat → Nat} : ∀ (l : List (Nat × Nat)) (pos : Nat), (∀ a h p t, l = a ++ (h, p) :: t → r h t.length = r' h t.length) → jPhi n E r l pos = jPhi n E r' l pos
  | [], pos, _ => rfl
  | (h, p) :: t, pos, hr => by
    rw [jPhi, jPhi, hr [] h p t rfl, jPhi_congr t (E h + 1) (fun a h' p' t' e => hr ((h, p) :: a) h' p' t' (by rw [e]; rfl))]
theorem jSs.lt {n : Nat} {K M L : Nat → Nat} {σ : Nat → List (Nat × Nat)} (hS : jSs n K M L σ) : ∀ (a : List (Nat × Nat)) (i : Nat), i ≤ n → ∀ h p t, σ i = a ++ (h, p) :: t → h < i := by
  intro a
  induction a with
  | nil => intro i hi h p t e; exact (hS.top i hi h p t e).1
  | cons x a ih =>
    intro i hi h p t e
    obtain ⟨h0, p0⟩ := x
    obtain ⟨b1, -, -, -, -, -, -, b8, -⟩ := hS.top i hi h0 p0 (a ++ (h, p) :: t) e
    have := ih h0 (by omega) h p t b8
    omega
noncomputable def jPh (n : Nat) (K M : Nat → Nat) (σ : Nat → List (Nat × Nat)) (s : jSt) : Nat := jPhi n (jE K M) (fun h d => if K h = 7 then jRm (s.2.1 h) (jBf s.2.2.2.1 d) else 0) (σ s.1) s.1
theorem jrm_c {K rd rd' : Nat → Nat} {bf bf' : Nat → Option jLan} {h d : Nat} (h1 : rd h = rd' h) (h2 : ∀ v, v < 5 → jBf bf d v = jBf bf' d v) : (if K h = 7 then jRm (rd h) (jBf bf d) else 0) = if K h = 7 then jRm (rd' h) (jBf bf' d) else 0 := by
  rw [h1]
  have : jRm (rd' h) (jBf bf d) = jRm (rd' h) (jBf bf' d) := by
    unfold jRm
    have e : ∀ k, k ≤ 5 → jSm (fun v => 9 - jRk (jBf bf d v)) k = jSm (fun v => 9 - jRk (jBf bf' d v)) k := by
      intro k
      induction k with
      | zero => intro _; rfl
      | succ k ih => intro hk; rw [jSm, jSm, ih (by omega), h2 k (by omega)]
    rw [e 5 (Nat.le_refl _)]
  rw [this]
