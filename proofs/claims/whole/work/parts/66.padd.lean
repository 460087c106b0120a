-- a program as its lines are added
/-- the lines whose mate is fixed by line i -/
def jCi (K : Nat → Nat) (σ : Nat → List (Nat × Nat)) (i : Nat) : List Nat := if K i = 6 then (match σ i with | [] => [] | x :: _ => [x.1]) else if 8 ≤ K i then (match σ i with | [] => [] | x :: _ => [x.2, i]) else []
def jFr (n : Nat) (K : Nat → Nat) (σ : Nat → List (Nat × Nat)) : Prop := ∀ i, i < n → ∀ c ∈ jCi K σ i, ∀ x ∈ σ n, x.2 ≠ c
/-- what a line may be -/
def jLn (k v a b : Nat) : Prop := k < 10 ∧ v < 5 ∧ (k = 0 → jdg 4 a ∧ a < 2 ^ 24) ∧ (k = 1 → a < 3) ∧ (k = 2 → a < 5 ∧ b < 5) ∧ (k = 3 → a < 5 ∧ b < 3) ∧ (k = 4 → a < 6) ∧ (k = 5 ∨ k = 7 → a < 3 ∧ 1 ≤ b ∧ b ≤ 4)
def jPP (n s : Nat) (K V A B M L : Nat → Nat) (σ : Nat → List (Nat × Nat)) : Prop := n ≤ 24 ∧ s ≤ 6 ∧ jSs n K M L σ ∧ jFr n K σ ∧ (∀ k, k < s → ∃ j, j < n ∧ K j = 4 ∧ A j = k) ∧ ∀ i, i < n → jLn (K i) (V i) (A i) (B i)
theorem jSs.pl {n : Nat} {K M L : Nat → Nat} {σ : Nat → List (Nat × Nat)} (hS : jSs n K M L σ) : ∀ (a : List (Nat × Nat)) (i : Nat), i ≤ n → ∀ x t, σ i = a ++ x :: t → x.1 < i ∧ x.2 < i ∧ x.1 ≤ x.2 ∧ jTp n K M L σ i x.1 x.2 t := by
  intro a
  induction a with
  | nil =>
    intro i hi x t e
    have := hS.top i hi x.1 x.2 t e
    refine ⟨this.1, this.2.1, ?_, this⟩
    rcases this.2.2.2.2.2.2.2.2.2 with h | ⟨-, -, -, h⟩ <;> omega
  | cons y a ih =>
    intro i hi x t e
    have hy := hS.top i hi y.1 y.2 (a ++ x :: t) e
    obtain ⟨b1, b2, b3, b4⟩ := ih y.1 (by have := hy.1; omega) x t hy.2.2.2.2.2.2.2.1
    have := hy.1
    exact ⟨by omega, by omega, b3, ⟨by omega, by omega, b4.2.2⟩⟩
theorem jSs.mem {n : Nat} {K M L : Nat → Nat} {σ : Nat → List (Nat × Nat)} (hS : jSs n K M L σ) {i : Nat} (hi : i ≤ n) {x : Nat × Nat} (hx : x ∈ σ i) : x.1 < i ∧ x.2 < i ∧ x.1 ≤ x.2 := by
  obtain ⟨a, t, e⟩ := List.append_of_mem hx
  obtain ⟨b1, b2, b3, -⟩ := hS.pl a i hi x t e
  exact ⟨b1, b2, b3⟩
theorem jSs.len {n : Nat} {K M L : Nat → Nat} {σ : Nat → List (Nat × Nat)} (hS : jSs n K M L σ) {i : Nat} (hi : i ≤ n) : (σ i).length ≤ 3 := by
  cases hσ : σ i with
  | nil => simp
  | cons x t =>
    have := (hS.top i hi x.1 x.2 t hσ).2.2.2.2.2.2.1
    show t.length + 1 ≤ 3
    omega
/-- the blocks that are left behind a line -/
def jNx (st : List (Nat × Nat)) (k n : Nat) : List (Nat × Nat) := if k ≤ 4 then st else if k = 5 ∨ k = 7 then (n, n) :: st else if k = 6 then (match st with | [] => [] | x :: t => (x.1, n) :: t) else st.tail
def jNM (M : Nat → Nat) (st : List (Nat × Nat)) (k n : Nat) : Nat → Nat := match st with
  | [] => M
  | x :: _ => if k = 6 then va_up M x.2 n else if 8 ≤ k then va_up (va_up M x.2 n) n x.1 else M
def jNL (L : Nat → Nat) (st : List (Nat × Nat)) (k n : Nat) : Nat → Nat := if k = 5 ∨ k = 7 then va_up L n st.length else if 8 ≤ k then va_up L n (st.length - 1) else L
/-- when a line of a kind may come behind open blocks -/
def jMay (K : Nat → Nat) (st : List (Nat × Nat)) (k : Nat) : Prop := (k = 5 ∨ k = 7 → st.length < 3) ∧ (k = 6 → ∃ h t, st = (h, h) :: t ∧ K h = 5) ∧ (k = 8 → ∃ h p t, st = (h, p) :: t ∧ K h = 5) ∧ (k = 9 → ∃ h p t, st = (h, p) :: t ∧ K h = 7)
theorem jSl_old {K M L K' M' L' : Nat → Nat} {σ σ' : Nat → List (Nat × Nat)} {n i : Nat} (hi : i < n) (hS : jSs n K M L σ) (hK : ∀ j, j < n → K' j = K j) (hL : ∀ j, j < n → L' j = L j) (hσ : ∀ j, j ≤ n → σ' j = σ j) (hM : ∀ c ∈ jCi K σ i, M' c = M c) : jSl K' M' L' σ' i := by
  have e1 := hσ i (by omega)
  have e2 := hσ (i + 1) (by omega)
  unfold jSl
  rw [e1, e2, hK i hi, hL i hi]
  rcases hS.2 i hi with h | h | ⟨k, h0, t0, q1, q2, q3, q4⟩ | ⟨k, h0, p0, t0, q1, q2, q3, q4, q5, q6⟩ | ⟨k, h0, t0, q1, q2, q3, q4, q5, q6⟩
  · exact Or.inl h
  · exact Or.inr (Or.inl h)
  · have ht := hS.top i (by omega) _ _ _ q1
    have hc : jCi K σ i = [h0] := by unfold jCi; rw [if_pos k, q1]
    rw [hc] at hM
    exact Or.inr (Or.inr (Or.inl ⟨k, h0, t0, q1, by rw [hK h0 ht.2.2.1]; exact q2, by rw [hM h0 (List.mem_singleton.mpr rfl)]; exact q3, q4⟩))
  · have ht := hS.top i (by omega) _ _ _ q1
    have hc : jCi K σ i = [p0, i] := by unfold jCi; rw [if_neg (by omega), if_pos (by omega), q1]
    rw [hc] at hM
    exact Or.inr (Or.inr (Or.inr (Or.inl ⟨k, h0, p0, t0, q1, by rw [hK h0 ht.2.2.1]; exact q2, by rw [hM p0 (by simp)]; exact q3, by rw [hM i (by simp)]; exact q4, q5, q6⟩)))
  · have ht := hS.top i (by omega) _ _ _ q1
    have hc : jCi K σ i = [h0, i] := by unfold jCi; rw [if_neg (by omega), if_pos (by omega), q1]
    rw [hc] at hM
    exact Or.inr (Or.inr (Or.inr (Or.inr ⟨k, h0, t0, q1, by rw [hK h0 ht.2.2.1]; exact q2, by rw [hM h0 (by simp)]; exact q3, by rw [hM i (by simp)]; exact q4, q5, q6⟩)))
theorem jCi_lt {K M L : Nat → Nat} {σ : Nat → List (Nat × Nat)} {n i c : Nat} (hS : jSs n K M L σ) (hi : i < n) (hc : c ∈ jCi K σ i) : c < n := by
  unfold jCi at hc
  cases hσ : σ i with
  | nil => rw [hσ] at hc; split at hc <;> first | (cases hc; done) | (split at hc <;> cases hc)
  | cons x t =>
    have hx := hS.mem (Nat.le_of_lt hi) (x := x) (by rw [hσ]; exact List.mem_cons_self ..)
    rw [hσ] at hc
    split at hc
    · rw [List.mem_singleton.mp hc]; omega
    · split at hc
      · simp only [List.mem_cons, List.not_mem_nil, or_false] at hc
        omega
      · cases hc
theorem jPP_add {n s : Nat} {K V A B M L : Nat → Nat} {σ : Nat → List (Nat × Nat)} {k v a b : Nat} (h : jPP n s K V A B M L σ) (hn : n < 24) (hl : jLn k v a b) (h4 : k = 4 → s < 6 ∧ a = s) (hm : jMay K (σ n) k) : jPP (n + 1) (if k = 4 then s + 1 else s) (va_up K n k) (va_up V n v) (va_up A n a) (va_up B n b) (jNM M (σ n) k n) (jNL L (σ n) k n) (va_up σ (n + 1) (jNx (σ n) k n)) := by
  obtain ⟨h1, h2, hS, hF, hk, hln⟩ := h
  have uK : ∀ j, j < n → va_up K n k j = K j := fun j hj => jup_ne (by omega)
  have uA : ∀ j, j < n → va_up A n a j = A j := fun j hj => jup_ne (by omega)
  have uσ : ∀ j, j ≤ n → va_up σ (n + 1) (jNx (σ n) k n) j = σ j := fun j hj => jup_ne (by omega)
  have uL : ∀ j, j < n → jNL L (σ n) k n j = L j := fun j hj => by
    unfold jNL; split
    · exact jup_ne (by omega)
    · split
      · exact jup_ne (by omega)
      · rfl
  have uM : ∀ c, c < n → (∀ x ∈ σ n, x.2 ≠ c) → jNM M (σ n) k n c = M c := fun c hc hx => by
    unfold jNM
    cases hσ : σ n with
    | nil => rfl
    | cons x t =>
      have hxc := hx x (by rw [hσ]; exact List.mem_cons_self ..)
      show (if k = 6 then va_up M x.2 n else if 8 ≤ k then va_up (va_up M x.2 n) n x.1 else M) c = M c
      split
      · exact jup_ne (fun z => hxc z.symm)
      · split
        · rw [jup_ne (by omega)]; exact jup_ne (fun z => hxc z.symm)
        · rfl
  have hl3 := hS.len (Nat.le_refl n)
  obtain ⟨m5, m6, m8, m9⟩ := hm
  have hk10 := hl.1
  have new : jSl (va_up K n k) (jNM M (σ n) k n) (jNL L (σ n) k n) (va_up σ (n + 1) (jNx (σ n) k n)) n := by
    unfold jSl
    rw [uσ n (Nat.le_refl _), jup_self, jup_self]
    by_cases k4 : k ≤ 4
    · exact Or.inl ⟨k4, by unfold jNx; rw [if_pos k4]⟩
    · by_cases k57 : k = 5 ∨ k = 7
      · exact Or.inr (Or.inl ⟨k57, by unfold jNx; rw [if_neg k4, if_pos k57], by unfold jNL; rw [if_pos k57, jup_self], m5 k57⟩)
      · by_cases k6 : k = 6
        · obtain ⟨h0, t0, e1, e2⟩ := m6 k6
          have ht := hS.top n (Nat.le_refl _) _ _ _ e1
          refine Or.inr (Or.inr (Or.inl ⟨k6, h0, t0, e1, by rw [uK h0 ht.1]; exact e2, ?_, ?_⟩))
          · unfold jNM; rw [e1]; show (if k = 6 then va_up M h0 n else _) h0 = n; rw [if_pos k6, jup_self]
          · unfold jNx; rw [if_neg k4, if_neg k57, if_pos k6, e1]
        · have nx : jNx (σ n) k n = (σ n).tail := by unfold jNx; rw [if_neg k4, if_neg k57, if_neg k6]
          have k8 : 8 ≤ k := by omega
          have nM : ∀ h0 p0 t0, σ n = (h0, p0) :: t0 → jNM M (σ n) k n = va_up (va_up M p0 n) n h0 := fun h0 p0 t0 e => by
            unfold jNM; rw [e]; show (if k = 6 then _ else if 8 ≤ k then va_up (va_up M p0 n) n h0 else M) = _; rw [if_neg k6, if_pos k8]
          have nL : jNL L (σ n) k n n = (σ n).length - 1 := by unfold jNL; rw [if_neg k57, if_pos k8, jup_self]
          by_cases k88 : k = 8
          · obtain ⟨h0, p0, t0, e1, e2⟩ := m8 k88
            have ht := hS.top n (Nat.le_refl _) _ _ _ e1
            refine Or.inr (Or.inr (Or.inr (Or.inl ⟨k88, h0, p0, t0, e1, by rw [uK h0 ht.1]; exact e2, ?_, ?_, ?_, ?_⟩)))
            · rw [nM _ _ _ e1, jup_ne (by have := ht.2.1; omega), jup_self]
            · rw [nM _ _ _ e1, jup_self]
            · rw [nL, e1]; rfl
            · rw [nx, e1]; rfl
          · have k9 : k = 9 := by omega
            obtain ⟨h0, p0, t0, e1, e2⟩ := m9 k9
            have ht := hS.top n (Nat.le_refl _) _ _ _ e1
            have hp : p0 = h0 := by rcases ht.2.2.2.2.2.2.2.2.2 with z | ⟨z, -⟩; exact z; omega
            subst hp
            refine Or.inr (Or.inr (Or.inr (Or.inr ⟨k9, p0, t0, e1, by rw [uK p0 ht.1]; exact e2, ?_, ?_, ?_, ?_⟩)))
            · rw [nM _ _ _ e1, jup_ne (by have := ht.2.1; omega), jup_self]
            · rw [nM _ _ _ e1, jup_self]
            · rw [nL, e1]; rfl
            · rw [nx, e1]; rfl
  have hS' : jSs (n + 1) (va_up K n k) (jNM M (σ n) k n) (jNL L (σ n) k n) (va_up σ (n + 1) (jNx (σ n) k n)) := by
    refine ⟨by rw [uσ 0 (by omega)]; exact hS.1, fun i hi => ?_⟩
    by_cases hin : i = n
    · subst hin; exact new
    · exact jSl_old (n := n) (by omega) hS uK uL uσ (fun c hc => uM c (jCi_lt hS (by omega) hc) (fun x hx => hF i (by omega) c hc x hx))
  have ciold : ∀ i, i < n → jCi (va_up K n k) (va_up σ (n + 1) (jNx (σ n) k n)) i = jCi K σ i := fun i hi => by
    unfold jCi; rw [uK i hi, uσ i (by omega)]
  -- the blocks left are old ones, or end at n
  have left : ∀ x ∈ jNx (σ n) k n, x ∈ σ n ∨ x.2 = n := fun x hx => by
    unfold jNx at hx
    split at hx
    · exact Or.inl hx
    · split at hx
      · rcases List.mem_cons.mp hx with rfl | hx
        · exact Or.inr rfl
        · exact Or.inl hx
      · split at hx
        · cases hσ : σ n with
          | nil => rw [hσ] at hx; cases hx
          | cons y t =>
            rw [hσ] at hx
            rcases List.mem_cons.mp hx with rfl | hx
            · exact Or.inr rfl
            · exact Or.inl (List.mem_cons_of_mem _ hx)
        · exact Or.inl (List.mem_of_mem_tail hx)
  refine ⟨by omega, ?_, hS', fun i hi c hc x hx => ?_, fun j hj => ?_, fun i hi => ?_⟩
  · split
    · rename_i z; have := (h4 z).1; omega
    · exact h2
  · rw [jup_self] at hx
    by_cases hin : i = n
    · subst hin
      -- the new line's own
      have hci : jCi (va_up K i k) (va_up σ (i + 1) (jNx (σ i) k i)) i = if k = 6 then (match σ i with | [] => [] | x :: _ => [x.1]) else if 8 ≤ k then (match σ i with | [] => [] | x :: _ => [x.2, i]) else [] := by
        unfold jCi; rw [jup_self, uσ i (Nat.le_refl _)]
      rw [hci] at hc
      cases hσ : σ i with
      | nil => rw [hσ] at hc; split at hc <;> first | (cases hc; done) | (split at hc <;> cases hc)
      | cons y t =>
        have hy := hS.top i (Nat.le_refl _) y.1 y.2 t hσ
        have htl : ∀ z ∈ t, z.2 < y.1 := fun z hz => (hS.mem (Nat.le_of_lt hy.1) (by rw [hy.2.2.2.2.2.2.2.1]; exact hz)).2.1
        have hyy := (hS.mem (Nat.le_refl i) (x := y) (by rw [hσ]; exact List.mem_cons_self ..))
        rw [hσ] at hc hx
        by_cases k6 : k = 6
        · rw [if_pos k6] at hc
          have hc : c = y.1 := List.mem_singleton.mp hc
          unfold jNx at hx
          rw [if_neg (by omega), if_neg (by omega), if_pos k6] at hx
          rcases List.mem_cons.mp hx with rfl | hx
          · show i ≠ c; omega
          · have := htl x hx; omega
        · rw [if_neg k6] at hc
          by_cases k8 : 8 ≤ k
          · rw [if_pos k8] at hc
            unfold jNx at hx
            rw [if_neg (by omega), if_neg (by omega), if_neg k6] at hx
            have hx : x ∈ t := hx
            have := htl x hx
            simp only [List.mem_cons, List.not_mem_nil, or_false] at hc
            omega
          · rw [if_neg k8] at hc; cases hc
    · rw [ciold i (by omega)] at hc
      have hcn := jCi_lt hS (by omega : i < n) hc
      rcases left x hx with hx | hx
      · exact hF i (by omega) c hc x hx
      · omega
  · by_cases k4 : k = 4
    · rw [if_pos k4] at hj
      obtain ⟨z1, z2⟩ := h4 k4
      by_cases hjs : j = s
      · exact ⟨n, by omega, by rw [jup_self]; exact k4, by rw [jup_self, z2, hjs]⟩
      · obtain ⟨i, i1, i2, i3⟩ := hk j (by omega)
        exact ⟨i, by omega, by rw [uK i i1]; exact i2, by rw [uA i i1]; exact i3⟩
    · rw [if_neg k4] at hj
      obtain ⟨i, i1, i2, i3⟩ := hk j hj
      exact ⟨i, by omega, by rw [uK i i1]; exact i2, by rw [uA i i1]; exact i3⟩
  · by_cases hin : i = n
    · subst hin; rw [jup_self, jup_self, jup_self, jup_self]; exact hl
    · rw [jup_ne hin, jup_ne hin, jup_ne hin, jup_ne hin]; exact hln i (by omega)
theorem jPP_0 {K V A B M L : Nat → Nat} {σ : Nat → List (Nat × Nat)} (h : σ 0 = []) : jPP 0 0 K V A B M L σ := ⟨by omega, by omega, ⟨h, fun i hi => absurd hi (by omega)⟩, fun i hi => absurd hi (by omega), fun k hk => absurd hk (by omega), fun i hi => absurd hi (by omega)⟩
