-- a step keeps what holds, and comes nearer to the end
set_option maxHeartbeats 4000000 in
theorem jStep_ok {n : Nat} {K V A B M L : Nat → Nat} {σ : Nat → List (Nat × Nat)} (hS : jSs n K M L σ) (hc : σ n = []) (hK : ∀ i, i < n → K i < 10) (hV : ∀ i, i < n → V i < 5) {s : jSt} {hw : Nat} (hI : jDI n K A σ s hw) (hlt : s.1 < n) : jDI n K A σ (jStep n K V A B M L s) (max hw (s.1 + 1)) ∧ jPh n K M σ (jStep n K V A B M L s) < jPh n K M σ s := by
  obtain ⟨i, rd, nw, bf, bg, sk⟩ := s
  have hi : i < n := hlt
  obtain ⟨-, i2, i2', i3, i4, i5, i6, i7, i8⟩ := hI
  have i2 : i ≤ hw := i2
  have i3 : jDs bf bg (σ i) := i3
  have i4 : ∀ v, v < 5 → jOk (nw v) := i4
  have i5 : jOks bf := i5
  have i6 : jOks bg := i6
  have i7 : jOks sk := i7
  have i8 : ∀ j, j < hw → K j = 4 → (sk (A j)).isSome = true := i8
  have hst : jStep n K V A B M L (i, rd, nw, bf, bg, sk) = jGo K V A B M L i rd nw bf bg sk := if_pos hi
  rw [hst]
  have old : K i ≠ 4 → ∀ j, j < max hw (i + 1) → K j = 4 → (sk (A j)).isSome = true := fun hk j hj h4 => i8 j (by
    have : j ≠ i := fun z => by subst z; exact hk h4
    omega) h4
  have lim : i < jLim n (jE K M) (σ i) := by
    cases hσ : σ i with
    | nil => exact hi
    | cons x t => obtain ⟨h, p⟩ := x; exact Nat.lt_succ_of_le (hS.end1 hc (by omega) hσ).1
  have pos : ∀ d, 0 < 49 ^ d := fun d => Nat.pow_pos (by decide)
  have fwd : ∀ (r : Nat → Nat → Nat), jPhi n (jE K M) r (σ i) (i + 1) < jPhi n (jE K M) r (σ i) i := fun r => by
    have := jPhi_move (r := r) (n := n) (E := jE K M) (l := σ i) (a := i) (b := i + 1) (by omega) lim
    have h2 := pos (3 - (σ i).length)
    rw [show i + 1 - i = 1 by omega, Nat.one_mul] at this
    omega
  -- a head
  have head : ∀ (rd' : Nat → Nat) (nw' : Nat → jLan), (K i = 5 ∨ K i = 7) → σ (i + 1) = (i, i) :: σ i → L i = (σ i).length → (σ i).length < 3 → (∀ j, j ≠ i → rd' j = rd j) → (∀ v, v < 5 → jOk (nw' v)) → jDI n K A σ (i + 1, rd', nw', jPut bf (L i * 5) 5 nw, bg, sk) (max hw (i + 1)) ∧ jPh n K M σ (i + 1, rd', nw', jPut bf (L i * 5) 5 nw, bg, sk) < jPh n K M σ (i, rd, nw, bf, bg, sk) := by
    intro rd' nw' hk e eL e3 hrd hn'
    refine ⟨⟨by show i + 1 ≤ n; omega, by show i + 1 ≤ max hw (i + 1); omega, by omega, ?_, hn', i5.put i4, i6, i7, old (by omega)⟩, ?_⟩
    · show jDs (jPut bf (L i * 5) 5 nw) bg (σ (i + 1))
      rw [e]
      exact ⟨fun v hv => by rw [← eL, jPut_in _ _ hv]; rfl, fun z => absurd rfl z, jDs_gr (jPut_gr _ _ _ _) (fun _ z => z) _ i3⟩
    · have hE := hS.end1 hc (by omega) e
      show jPhi n (jE K M) (fun h d => if K h = 7 then jRm (rd' h) (jBf (jPut bf (L i * 5) 5 nw) d) else 0) (σ (i + 1)) (i + 1) < jPhi n (jE K M) (fun h d => if K h = 7 then jRm (rd h) (jBf bf d) else 0) (σ i) i
      rw [e, jPhi, jPhi_congr (r' := fun h d => if K h = 7 then jRm (rd h) (jBf bf d) else 0) (σ i) _ (fun a h p t el => by
        have h1 := hS.lt a i (by omega) h p t el
        have h2 : t.length < (σ i).length := by rw [el]; simp; omega
        exact jrm_c (hrd h (by omega)) (fun v hv => jBf_put_ne hv (by omega)))]
      have hle : jE K M i + 1 ≤ jLim n (jE K M) (σ i) := by
        cases hσ : σ i with
        | nil => exact hE.2.1
        | cons x t =>
          obtain ⟨h, p⟩ := x
          have := (hS.end1 hc (i := jE K M i + 1) (by omega) (hE.2.2.2.1.trans hσ)).1
          exact Nat.le_succ_of_le this
      have mv := jPhi_move (r := fun h d => if K h = 7 then jRm (rd h) (jBf bf d) else 0) (n := n) (E := jE K M) (l := σ i) (a := i) (b := jE K M i + 1) (by omega) hle
      rw [mv]
      have hr : (if K i = 7 then jRm (rd' i) (jBf (jPut bf (L i * 5) 5 nw) (σ i).length) else 0) ≤ 47 := by
        split
        · exact jRm_le _ _
        · omega
      generalize (if K i = 7 then jRm (rd' i) (jBf (jPut bf (L i * 5) 5 nw) (σ i).length) else 0) = r at hr
      rw [show 3 - (σ i).length = (2 - (σ i).length) + 1 by omega, Nat.pow_succ]
      have hW := pos (2 - (σ i).length)
      generalize 49 ^ (2 - (σ i).length) = W at hW
      have hx : i + 1 ≤ jE K M i := hE.1
      obtain ⟨x, hx⟩ : ∃ x, jE K M i = i + x := ⟨jE K M i - i, by omega⟩
      rw [hx, show i + x - i = x by omega, show i + x + 1 - (i + 1) = x by omega, show i + x + 1 - i = x + 1 by omega]
      have h1 : r * x + x ≤ 48 * x := by
        have := Nat.mul_le_mul_right x hr
        omega
      have h2 : (r * x + x) * W ≤ (48 * x) * W := Nat.mul_le_mul_right W h1
      have h3 : (48 * x) * W < (x + 1) * (W * 49) := by
        have : (x + 1) * (W * 49) = (49 * (x + 1)) * W := by rw [Nat.mul_comm W 49, ← Nat.mul_assoc, Nat.mul_comm (x + 1) 49]
        rw [this]
        exact Nat.mul_lt_mul_of_pos_right (by omega) hW
      omega
  rcases hS.2 i hi with ⟨k, e⟩ | ⟨k, e, e2, e3⟩ | ⟨k, h0, t0, e1, e2, e3, e4⟩ | ⟨k, h0, p0, t0, e1, e2, e3, e4, e5, e6⟩ | ⟨k, h0, t0, e1, e2, e3, e4, e5, e6⟩
  · by_cases h4 : K i = 4
    · rw [jGo_4 h4]
      refine ⟨⟨by show i + 1 ≤ n; omega, by show i + 1 ≤ max hw (i + 1); omega, by omega, by show jDs bf bg (σ (i + 1)); rw [e]; exact i3, i4, i5, i6, fun j L' ej => ?_, fun j hj hj4 => ?_⟩, ?_⟩
      · have ej : va_up sk (A i) (some (nw (V i))) j = some L' := ej
        by_cases hja : j = A i
        · subst hja
          rw [jup_self] at ej
          rw [← Option.some.inj ej]
          exact i4 _ (hV i hi)
        · rw [jup_ne hja] at ej
          exact i7 j L' ej
      · show (va_up sk (A i) (some (nw (V i))) (A j)).isSome = true
        by_cases ha : A j = A i
        · rw [ha, jup_self]; rfl
        · rw [jup_ne ha]; exact i8 j (by have : j ≠ i := fun z => ha (by rw [z]); omega) hj4
      · show jPhi n (jE K M) _ (σ (i + 1)) (i + 1) < jPhi n (jE K M) _ (σ i) i
        rw [e]; exact fwd _
    · rw [jGo_0 (show K i < 4 by omega)]
      refine ⟨⟨by show i + 1 ≤ n; omega, by show i + 1 ≤ max hw (i + 1); omega, by omega, by show jDs bf bg (σ (i + 1)); rw [e]; exact i3, jChg_ok i4, i5, i6, i7, old h4⟩, ?_⟩
      show jPhi n (jE K M) _ (σ (i + 1)) (i + 1) < jPhi n (jE K M) _ (σ i) i
      rw [e]; exact fwd _
  · rcases k with k | k
    · rw [jGo_5 k]
      exact head rd _ (Or.inl k) e e2 e3 (fun _ _ => rfl) (jKp_ok i4)
    · rw [jGo_7 k]
      exact head _ _ (Or.inr k) e e2 e3 (fun j hj => jup_ne hj) (jKp_ok i4)
  · have hE := hS.end1 hc (by omega) e1
    obtain ⟨b1, b2, b3, b4, b5, b6, b7, b8, b9, b10⟩ := hS.top i (by omega) _ _ _ e1
    have hMM : M (M i) = h0 := by
      have : jE K M h0 = M i := by unfold jE; rw [e3, if_pos ⟨e2, k⟩]
      rw [← this]; exact hE.2.2.1
    rw [jGo_6 k hMM]
    rw [e1] at i3
    refine ⟨⟨by show i + 1 ≤ n; omega, by show i + 1 ≤ max hw (i + 1); omega, by omega, ?_, jKp_ok (fun v _ => i5.bf _ v), i5, i6.put i4, i7, old (by omega)⟩, ?_⟩
    · show jDs bf (jPut bg (L h0 * 5) 5 nw) (σ (i + 1))
      rw [e4]
      exact ⟨i3.1, fun _ v hv => by rw [← b6, jPut_in _ _ hv]; rfl, jDs_gr (fun _ z => z) (jPut_gr _ _ _ _) _ i3.2.2⟩
    · show jPhi n (jE K M) _ (σ (i + 1)) (i + 1) < jPhi n (jE K M) _ (σ i) i
      have := fwd (fun h d => if K h = 7 then jRm (rd h) (jBf bf d) else 0)
      rw [e4]
      rw [e1] at this ⊢
      exact this
  · have hP := hS.popE hi e1 (Or.inl k)
    obtain ⟨b1, b2, b3, b4, b5, b6, b7, b8, b9, b10⟩ := hS.top i (by omega) _ _ _ e1
    rw [e1] at i3
    have down : ∀ r : Nat → Nat → Nat, jPhi n (jE K M) r (σ (i + 1)) (i + 1) < jPhi n (jE K M) r (σ i) i := fun r => by
      rw [e6, e1, jPhi, hP.1]
      have := Nat.mul_pos (show 0 < r h0 t0.length * (i - h0) + (i + 1 - i) by omega) (pos (2 - t0.length))
      omega
    by_cases hm : M h0 = i
    · rw [jGo_8a k e4 hm]
      refine ⟨⟨by show i + 1 ≤ n; omega, by show i + 1 ≤ max hw (i + 1); omega, by omega, ?_, fun v _ => jUni_ok _ _, i5, i6.put i4, i7, old (by omega)⟩, down _⟩
      show jDs bf (jPut bg (L h0 * 5) 5 nw) (σ (i + 1))
      rw [e6]
      exact jDs_gr (fun _ z => z) (jPut_gr _ _ _ _) _ i3.2.2
    · rw [jGo_8b k e4 hm]
      refine ⟨⟨by show i + 1 ≤ n; omega, by show i + 1 ≤ max hw (i + 1); omega, by omega, ?_, fun v _ => jUni_ok _ _, i5, i6, i7, old (by omega)⟩, down _⟩
      show jDs bf bg (σ (i + 1))
      rw [e6]
      exact i3.2.2
  · have hP := hS.popE hi e1 (Or.inr k)
    obtain ⟨b1, b2, b3, b4, b5, b6, b7, b8, b9, b10⟩ := hS.top i (by omega) _ _ _ e1
    rw [e1] at i3
    rw [jGo_9 k e4]
    have cong : ∀ pos, jPhi n (jE K M) (fun h d => if K h = 7 then jRm (va_up rd h0 (rd h0 + 1) h) (jBf (jPut bf (L h0 * 5) 5 (fun v => jCr1 (decide (3 ≤ rd h0 + 1)) (nw v) (jBf bf (L h0) v))) d) else 0) t0 pos = jPhi n (jE K M) (fun h d => if K h = 7 then jRm (rd h) (jBf bf d) else 0) t0 pos := fun pos => by
      refine jPhi_congr t0 pos (fun a h p t el => ?_)
      have h1 := hS.lt a h0 (by omega) h p t (b8.trans el)
      have h2 : t.length < t0.length := by rw [el]; simp; omega
      exact jrm_c (jup_ne (by omega)) (fun v hv => jBf_put_ne hv (by omega))
    have hns : ∀ v, v < 5 → jOk (jCr1 (decide (3 ≤ rd h0 + 1)) (nw v) (jBf bf (L h0) v)) := fun v _ => jCr1_ok (i5.bf _ v)
    cases hd : jDn nw (jBf bf (L h0)) 5 with
    | true =>
      rw [if_pos rfl]
      refine ⟨⟨by show i + 1 ≤ n; omega, by show i + 1 ≤ max hw (i + 1); omega, by omega, ?_, jKp_ok hns, i5.put hns, i6, i7, old (by omega)⟩, ?_⟩
      · show jDs (jPut bf (L h0 * 5) 5 (fun v => jCr1 (decide (3 ≤ rd h0 + 1)) (nw v) (jBf bf (L h0) v))) bg (σ (i + 1))
        rw [e6]
        exact jDs_gr (jPut_gr _ _ _ _) (fun _ z => z) _ i3.2.2
      · show jPhi n (jE K M) _ (σ (i + 1)) (i + 1) < jPhi n (jE K M) _ (σ i) i
        rw [e6, cong, e1, jPhi, hP.1]
        have := Nat.mul_pos (show 0 < (if K h0 = 7 then jRm (rd h0) (jBf bf t0.length) else 0) * (i - h0) + (i + 1 - i) by omega) (pos (2 - t0.length))
        show jPhi n (jE K M) (fun h d => if K h = 7 then jRm (rd h) (jBf bf d) else 0) t0 (i + 1) < ((if K h0 = 7 then jRm (rd h0) (jBf bf t0.length) else 0) * (i - h0) + (i + 1 - i)) * 49 ^ (2 - t0.length) + jPhi n (jE K M) (fun h d => if K h = 7 then jRm (rd h) (jBf bf d) else 0) t0 (i + 1)
        omega
    | false =>
      rw [if_neg (by decide)]
      refine ⟨⟨by show h0 + 1 ≤ n; omega, by show h0 + 1 ≤ max hw (i + 1); omega, by omega, ?_, jKp_ok hns, i5.put hns, i6, i7, old (by omega)⟩, ?_⟩
      · show jDs (jPut bf (L h0 * 5) 5 (fun v => jCr1 (decide (3 ≤ rd h0 + 1)) (nw v) (jBf bf (L h0) v))) bg (σ (h0 + 1))
        rw [b9]
        exact ⟨fun v hv => by rw [← b6, jPut_in _ _ hv]; rfl, fun z => absurd rfl z, jDs_gr (jPut_gr _ _ _ _) (fun _ z => z) _ i3.2.2⟩
      · show jPhi n (jE K M) _ (σ (h0 + 1)) (h0 + 1) < jPhi n (jE K M) _ (σ i) i
        rw [b9, e1, jPhi, cong, jPhi, hP.1]
        have hr : jRm (va_up rd h0 (rd h0 + 1) h0) (jBf (jPut bf (L h0 * 5) 5 (fun v => jCr1 (decide (3 ≤ rd h0 + 1)) (nw v) (jBf bf (L h0) v))) t0.length) < jRm (rd h0) (jBf bf t0.length) := by
          rw [jup_self, ← b6]
          have := jRm_lt (R := rd h0) (nw := nw) (hl := jBf bf (L h0)) (fun v _ => i5.bf _ v) hd
          refine Nat.lt_of_le_of_lt (Nat.le_of_eq ?_) this
          unfold jRm
          have e : ∀ k, k ≤ 5 → jSm (fun v => 9 - jRk (jBf (jPut bf (L h0 * 5) 5 (fun v => jCr1 (decide (3 ≤ rd h0 + 1)) (nw v) (jBf bf (L h0) v))) (L h0) v)) k = jSm (fun v => 9 - jRk (jCr1 (decide (3 ≤ rd h0 + 1)) (nw v) (jBf bf (L h0) v))) k := by
            intro k
            induction k with
            | zero => intro _; rfl
            | succ k ih => intro hk; rw [jSm, jSm, ih (by omega), jBf_put (by omega)]
          rw [e 5 (Nat.le_refl _)]
        simp only [if_pos e2]
        generalize jRm (va_up rd h0 (rd h0 + 1) h0) _ = r' at hr
        generalize jRm (rd h0) (jBf bf t0.length) = r at hr
        have hW := pos (2 - t0.length)
        generalize 49 ^ (2 - t0.length) = W at hW
        have h1 : r' * (i - h0) + (i + 1 - (h0 + 1)) < r * (i - h0) + (i + 1 - i) := by
          have := Nat.mul_le_mul_right (i - h0) (show r' + 1 ≤ r from hr)
          rw [Nat.succ_mul] at this
          omega
        have h2 := Nat.mul_lt_mul_of_pos_right h1 hW
        omega
