-- a program that grows, in the class's heap
def jPx (X : ja_H) (n s : Nat) (K V A B M L : Nat → Nat) (σ : Nat → List (Nat × Nat)) : Prop := ∃ (kd vr fs sc mt lv pt hd : Nat → Int32), jRr X 2 kd vr fs sc mt lv (nI n) (nI s) (nI (σ n).length) pt hd ∧ (∀ i, i < n → kd i = nI (K i) ∧ vr i = nI (V i) ∧ fs i = nI (A i) ∧ sc i = nI (B i) ∧ (5 ≤ K i → (∀ x ∈ σ n, x.2 ≠ i) → mt i = nI (M i) ∧ M i < n) ∧ (K i = 5 ∨ 7 ≤ K i → lv i = nI (L i) ∧ L i < 3)) ∧ ∀ a x t, σ n = a ++ x :: t → pt t.length = nI x.2 ∧ hd t.length = nI x.1
theorem jPx.fr {S : List Nat} {X Y : ja_H} {n s : Nat} {K V A B M L : Nat → Nat} {σ : Nat → List (Nat × Nat)} (h : jPx X n s K V A B M L σ) (hf : jfr S X Y) (hS : ∀ k ∈ S, k < 2 ∨ 10 < k) : jPx Y n s K V A B M L σ := by
  obtain ⟨kd, vr, fs, sc, mt, lv, pt, hd, r, a⟩ := h
  exact ⟨kd, vr, fs, sc, mt, lv, pt, hd, r.fr hf hS, a⟩
theorem jPx.rv {X : ja_H} {n s : Nat} {K V A B M L : Nat → Nat} {σ : Nat → List (Nat × Nat)} (h : jPx X n s K V A B M L σ) (hP : jPP n s K V A B M L σ) (hc : σ n = []) : jRv X 2 n K V A B M L := by
  obtain ⟨kd, vr, fs, sc, mt, lv, pt, hd, r, a, -⟩ := h
  refine ⟨kd, vr, fs, sc, mt, lv, pt, hd, _, _, r, hP.1, fun i hi => ?_⟩
  obtain ⟨a1, a2, a3, a4, a5, a6⟩ := a i hi
  obtain ⟨l1, l2, l3, l4, l5, l6, l7, l8⟩ := hP.2.2.2.2.2 i hi
  exact ⟨a1, a2, a3, a4, l1, l2, l3, l4, l5, l6, l7, l8, fun h5 => a5 h5 (by rw [hc]; intro x hx; cases hx), a6⟩
theorem jnx_len {st : List (Nat × Nat)} {k n : Nat} (hm6 : k = 6 → ∃ h t, st = (h, h) :: t) (hk : k < 10) : (jNx st k n).length = if k ≤ 4 ∨ k = 6 then st.length else if k = 5 ∨ k = 7 then st.length + 1 else st.length - 1 := by
  unfold jNx
  by_cases h4 : k ≤ 4
  · rw [if_pos h4, if_pos (Or.inl h4)]
  · rw [if_neg h4]
    by_cases h57 : k = 5 ∨ k = 7
    · rw [if_pos h57, if_neg (by omega), if_pos h57]; rfl
    · rw [if_neg h57]
      by_cases h6 : k = 6
      · obtain ⟨h, t, rfl⟩ := hm6 h6
        rw [if_pos h6, if_pos (Or.inr h6)]; rfl
      · rw [if_neg h6, if_neg (by omega), if_neg h57, List.length_tail]
set_option maxHeartbeats 4000000 in
theorem jPx_add {X' : ja_H} {n s k v a b w : Nat} {K V A B M L : Nat → Nat} {σ : Nat → List (Nat × Nat)} {kd vr fs sc mt lv pt hd : Nat → Int32} (hP : jPP n s K V A B M L σ) (hl : jLn k v a b) (hm : jMay K (σ n) k)
    (hln : ∀ i, i < n → kd i = nI (K i) ∧ vr i = nI (V i) ∧ fs i = nI (A i) ∧ sc i = nI (B i) ∧ (5 ≤ K i → (∀ x ∈ σ n, x.2 ≠ i) → mt i = nI (M i) ∧ M i < n) ∧ (K i = 5 ∨ 7 ≤ K i → lv i = nI (L i) ∧ L i < 3))
    (hst : ∀ a x t, σ n = a ++ x :: t → pt t.length = nI x.2 ∧ hd t.length = nI x.1) (hw : ∀ x t, σ n = x :: t → x.2 = w)
    (q0 : k < 4 → jRr X' 2 (upd kd n (nI k)) (upd vr n (nI v)) (upd fs n (nI a)) (upd sc n (nI b)) mt lv (nI (n + 1)) (nI s) (nI (σ n).length) pt hd)
    (q4 : k = 4 → jRr X' 2 (upd kd n (nI k)) (upd vr n (nI v)) (upd fs n (nI a)) (upd sc n (nI b)) mt lv (nI (n + 1)) (nI (s + 1)) (nI (σ n).length) pt hd)
    (q5 : k = 5 ∨ k = 7 → jRr X' 2 (upd kd n (nI k)) (upd vr n (nI v)) (upd fs n (nI a)) (upd sc n (nI b)) mt (upd lv n (nI (σ n).length)) (nI (n + 1)) (nI s) (nI ((σ n).length + 1)) (upd pt (σ n).length (nI n)) (upd hd (σ n).length (nI n)))
    (q6 : k = 6 → jRr X' 2 (upd kd n (nI k)) (upd vr n (nI v)) (upd fs n (nI a)) (upd sc n (nI b)) (upd mt w (nI n)) lv (nI (n + 1)) (nI s) (nI (σ n).length) (upd pt ((σ n).length - 1) (nI n)) hd)
    (q8 : k = 8 ∨ k = 9 → jRr X' 2 (upd kd n (nI k)) (upd vr n (nI v)) (upd fs n (nI a)) (upd sc n (nI b)) (upd (upd mt w (nI n)) n (hd ((σ n).length - 1))) (upd lv n (nI ((σ n).length - 1))) (nI (n + 1)) (nI s) (nI ((σ n).length - 1)) pt hd) :
    jPx X' (n + 1) (if k = 4 then s + 1 else s) (va_up K n k) (va_up V n v) (va_up A n a) (va_up B n b) (jNM M (σ n) k n) (jNL L (σ n) k n) (va_up σ (n + 1) (jNx (σ n) k n)) := by
  have hS := hP.2.2.1
  have hk := hl.1
  have hlen := jnx_len (st := σ n) (n := n) (fun z => by obtain ⟨h, t, e, -⟩ := hm.2.1 z; exact ⟨h, t, e⟩) hk
  have hl3 := hS.len (Nat.le_refl n)
  -- the plain columns
  have col : ∀ i, i < n + 1 → upd kd n (nI k) i = nI (va_up K n k i) ∧ upd vr n (nI v) i = nI (va_up V n v i) ∧ upd fs n (nI a) i = nI (va_up A n a i) ∧ upd sc n (nI b) i = nI (va_up B n b i) := fun i hi => by
    by_cases hin : i = n
    · subst hin; simp only [pk_us, jup_self]; exact ⟨trivial, trivial, trivial, trivial⟩
    · simp only [pk_un hin, jup_ne hin]
      have := hln i (by omega)
      exact ⟨this.1, this.2.1, this.2.2.1, this.2.2.2.1⟩
  have mk : ∀ (mt' lv' pt' hd' : Nat → Int32) (s' : Nat), s' = (if k = 4 then s + 1 else s) → jRr X' 2 (upd kd n (nI k)) (upd vr n (nI v)) (upd fs n (nI a)) (upd sc n (nI b)) mt' lv' (nI (n + 1)) (nI s') (nI (jNx (σ n) k n).length) pt' hd' →
      (∀ i, i < n → 5 ≤ K i → (∀ x ∈ jNx (σ n) k n, x.2 ≠ i) → mt' i = nI (jNM M (σ n) k n i) ∧ jNM M (σ n) k n i < n + 1) → (8 ≤ k → mt' n = nI (jNM M (σ n) k n n) ∧ jNM M (σ n) k n n < n + 1) →
      (∀ i, i < n → K i = 5 ∨ 7 ≤ K i → lv' i = nI (jNL L (σ n) k n i) ∧ jNL L (σ n) k n i < 3) → (k = 5 ∨ 7 ≤ k → lv' n = nI (jNL L (σ n) k n n) ∧ jNL L (σ n) k n n < 3) →
      (∀ a x t, jNx (σ n) k n = a ++ x :: t → pt' t.length = nI x.2 ∧ hd' t.length = nI x.1) → jPx X' (n + 1) (if k = 4 then s + 1 else s) (va_up K n k) (va_up V n v) (va_up A n a) (va_up B n b) (jNM M (σ n) k n) (jNL L (σ n) k n) (va_up σ (n + 1) (jNx (σ n) k n)) := by
    intro mt' lv' pt' hd' s' hs' r c1 c2 c3 c4 c5
    subst hs'
    refine ⟨_, _, _, _, mt', lv', pt', hd', by rw [jup_self]; exact r, fun i hi => ?_, by rw [jup_self]; exact c5⟩
    obtain ⟨d1, d2, d3, d4⟩ := col i hi
    refine ⟨d1, d2, d3, d4, fun h5 hx => ?_, fun h5 => ?_⟩
    · rw [jup_self] at hx
      by_cases hin : i = n
      · subst hin
        rw [jup_self] at h5
        by_cases h8 : 8 ≤ k
        · exact c2 h8
        · exfalso
          have : ∃ x ∈ jNx (σ i) k i, x.2 = i := by
            unfold jNx
            rw [if_neg (by omega)]
            by_cases h57 : k = 5 ∨ k = 7
            · rw [if_pos h57]; exact ⟨_, List.mem_cons_self .., rfl⟩
            · have h6 : k = 6 := by omega
              obtain ⟨h, t, e, -⟩ := hm.2.1 h6
              rw [if_neg h57, if_pos h6, e]; exact ⟨_, List.mem_cons_self .., rfl⟩
          obtain ⟨x, x1, x2⟩ := this
          exact hx x x1 x2
      · rw [jup_ne hin] at h5
        exact c1 i (by omega) h5 hx
    · by_cases hin : i = n
      · subst hin; rw [jup_self] at h5; exact c4 h5
      · rw [jup_ne hin] at h5; exact c3 i (by omega) h5
  have lold : ∀ i, i < n → K i = 5 ∨ 7 ≤ K i → lv i = nI (L i) ∧ L i < 3 := fun i hi h => (hln i hi).2.2.2.2.2 h
  have nLne : ∀ i, i < n → jNL L (σ n) k n i = L i := fun i hi => by
    unfold jNL; split
    · exact jup_ne (by omega)
    · split
      · exact jup_ne (by omega)
      · rfl
  by_cases h4 : k ≤ 4
  · have hnx : jNx (σ n) k n = σ n := by unfold jNx; rw [if_pos h4]
    have hM : jNM M (σ n) k n = M := by
      unfold jNM; split
      · rfl
      · rw [if_neg (by omega), if_neg (by omega)]
    refine mk mt lv pt hd _ rfl ?_ (fun i hi h5 hx => ?_) (fun z => by omega) (fun i hi h5 => by rw [nLne i hi]; exact lold i hi h5) (fun z => by omega) (fun a x t e => hst a x t (by rw [← hnx]; exact e))
    · rw [hnx]
      by_cases h44 : k = 4
      · rw [if_pos h44]; exact q4 h44
      · rw [if_neg h44]; exact q0 (by omega)
    · rw [hM]; rw [hnx] at hx
      have := (hln i hi).2.2.2.2.1 h5 hx
      exact ⟨this.1, by omega⟩
  · have hs4 : (if k = 4 then s + 1 else s) = s := if_neg (by omega)
    by_cases h57 : k = 5 ∨ k = 7
    · have hnx : jNx (σ n) k n = (n, n) :: σ n := by unfold jNx; rw [if_neg h4, if_pos h57]
      have hM : jNM M (σ n) k n = M := by
        unfold jNM; split
        · rfl
        · rw [if_neg (by omega), if_neg (by omega)]
      refine mk mt _ _ _ s hs4.symm (by rw [hnx]; exact q5 h57) (fun i hi h5 hx => ?_) (fun z => by omega) (fun i hi h5 => ?_) (fun _ => ?_) (fun a x t e => ?_)
      · rw [hM]; rw [hnx] at hx
        have := (hln i hi).2.2.2.2.1 h5 (fun x hx' => hx x (List.mem_cons_of_mem _ hx'))
        exact ⟨this.1, by omega⟩
      · rw [pk_un (by omega), nLne i hi]; exact lold i hi h5
      · rw [pk_us]
        have : jNL L (σ n) k n n = (σ n).length := by unfold jNL; rw [if_pos h57, jup_self]
        rw [this]; exact ⟨rfl, hm.1 h57⟩
      · rw [hnx] at e
        cases a with
        | nil =>
          have e1 : (n, n) = x := (List.cons.inj e).1
          have e2 : σ n = t := (List.cons.inj e).2
          subst e1 e2
          rw [pk_us, pk_us]; exact ⟨rfl, rfl⟩
        | cons y a =>
          have e2 : σ n = a ++ x :: t := (List.cons.inj e).2
          have hne : t.length ≠ (σ n).length := by rw [e2]; simp; omega
          rw [pk_un hne, pk_un hne]
          exact hst a x t e2
    · cases hσ : σ n with
      | nil =>
        exfalso
        rcases (by omega : k = 6 ∨ k = 8 ∨ k = 9) with z | z | z
        · obtain ⟨_, _, e, -⟩ := hm.2.1 z; rw [hσ] at e; cases e
        · obtain ⟨_, _, _, e, -⟩ := hm.2.2.1 z; rw [hσ] at e; cases e
        · obtain ⟨_, _, _, e, -⟩ := hm.2.2.2 z; rw [hσ] at e; cases e
      | cons y t0 =>
        have hyw := hw y t0 hσ
        have hy := hS.top n (Nat.le_refl _) y.1 y.2 t0 hσ
        have ho1 : (σ n).length - 1 = t0.length := by rw [hσ]; rfl
        have hty := hst [] y t0 hσ
        have htl : ∀ z ∈ t0, z.2 < y.1 := fun z hz => (hS.mem (Nat.le_of_lt hy.1) (by rw [hy.2.2.2.2.2.2.2.1]; exact hz)).2.1
        rw [← hσ]
        by_cases h6 : k = 6
        · have hnx : jNx (σ n) k n = (y.1, n) :: t0 := by unfold jNx; rw [if_neg h4, if_neg h57, if_pos h6, hσ]
          have hM : jNM M (σ n) k n = va_up M w n := by unfold jNM; rw [hσ]; show (if k = 6 then va_up M y.2 n else _) = _; rw [if_pos h6, hyw]
          refine mk _ lv _ hd s hs4.symm (by rw [hnx]; have := q6 h6; rw [hσ] at this; exact this) (fun i hi h5 hx => ?_) (fun z => by omega) (fun i hi h5 => by rw [nLne i hi]; exact lold i hi h5) (fun z => by omega) (fun a x t e => ?_)
          · rw [hM]
            by_cases hiw : i = w
            · subst hiw; rw [pk_us, jup_self]; exact ⟨rfl, by omega⟩
            · rw [pk_un hiw, jup_ne hiw]
              have := (hln i hi).2.2.2.2.1 h5 (fun x hx' => by
                rw [hσ] at hx'
                rcases List.mem_cons.mp hx' with rfl | hx'
                · rw [hyw]; exact fun z => hiw z.symm
                · exact hx x (by rw [hnx]; exact List.mem_cons_of_mem _ hx'))
              exact ⟨this.1, by omega⟩
          · rw [hnx] at e
            cases a with
            | nil =>
              have e1 : (y.1, n) = x := (List.cons.inj e).1
              have e2 : t0 = t := (List.cons.inj e).2
              subst e1 e2
              show upd pt t0.length (nI n) t0.length = nI n ∧ hd t0.length = nI y.1
              rw [pk_us]; exact ⟨rfl, hty.2⟩
            | cons z a =>
              have e2 : t0 = a ++ x :: t := (List.cons.inj e).2
              have hne : t.length ≠ t0.length := by rw [e2]; simp; omega
              show upd pt t0.length (nI n) t.length = nI x.2 ∧ hd t.length = nI x.1
              rw [pk_un hne]
              exact hst (y :: a) x t (by rw [hσ, e2]; rfl)
        · have h89 : k = 8 ∨ k = 9 := by omega
          have hnx : jNx (σ n) k n = t0 := by unfold jNx; rw [if_neg h4, if_neg h57, if_neg h6, hσ]; rfl
          have hM : jNM M (σ n) k n = va_up (va_up M w n) n y.1 := by unfold jNM; rw [hσ]; show (if k = 6 then _ else if 8 ≤ k then va_up (va_up M y.2 n) n y.1 else M) = _; rw [if_neg h6, if_pos (by omega), hyw]
          have hL : jNL L (σ n) k n n = t0.length := by unfold jNL; rw [if_neg h57, if_pos (by omega), jup_self, ho1]
          refine mk _ _ pt hd s hs4.symm (by rw [hnx]; have := q8 h89; rw [ho1] at this; exact this) (fun i hi h5 hx => ?_) (fun _ => ?_) (fun i hi h5 => by rw [pk_un (by omega), nLne i hi]; exact lold i hi h5) (fun _ => ?_) (fun a x t e => ?_)
          · rw [hM, pk_un (show i ≠ n by omega), jup_ne (show i ≠ n by omega)]
            by_cases hiw : i = w
            · subst hiw; rw [pk_us, jup_self]; exact ⟨rfl, by omega⟩
            · rw [pk_un hiw, jup_ne hiw]
              have := (hln i hi).2.2.2.2.1 h5 (fun x hx' => by
                rw [hσ] at hx'
                rcases List.mem_cons.mp hx' with rfl | hx'
                · rw [hyw]; exact fun z => hiw z.symm
                · exact hx x (by rw [hnx]; exact hx'))
              exact ⟨this.1, by omega⟩
          · rw [hM, pk_us, jup_self]; exact ⟨hty.2, by have := hy.1; omega⟩
          · rw [pk_us, hL]; exact ⟨rfl, hy.2.2.2.2.2.2.1⟩
          · rw [hnx] at e
            exact hst (y :: a) x t (by rw [hσ, e]; rfl)
