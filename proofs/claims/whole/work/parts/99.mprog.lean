-- the model's lines as they are added
def jMp (X : ja_H) (n : Nat) (K V A B : Nat → Nat) (σ : Nat → List (Nat × Nat)) : Prop := ∃ wh on tw th dp bg ol el bk, jPa X wh on tw th dp bg ol el bk ∧ (∀ i, i < n → wh i = nI (if K i = 9 then 8 else K i) ∧ on i = nI (V i) ∧ tw i = nI (A i) ∧ th i = nI (B i) ∧ dp i = nI (if 8 ≤ K i then (σ i).length - 1 else (σ i).length) ∧ (K i = 6 ∨ 8 ≤ K i → ∀ x t, σ i = x :: t → bg i = nI x.1) ∧ (8 ≤ K i → ∀ x t, σ i = x :: t → el x.1 = nI i) ∧ (K i = 8 → ∀ x t, σ i = x :: t → ol x.1 = if x.2 = x.1 then -1 else nI x.2)) ∧ (∀ x, x ∈ σ n → K x.1 = 5 → ol x.1 = if x.2 = x.1 then -1 else nI x.2) ∧ ∀ a x t, σ n = a ++ x :: t → bk t.length = nI x.1
theorem jMp.fr {X Y : ja_H} {n : Nat} {K V A B : Nat → Nat} {σ : Nat → List (Nat × Nat)} {S : List Nat} (h : jMp X n K V A B σ) (hf : jfr S X Y) (hS : ∀ k ∈ S, k < 146 ∨ 154 < k) : jMp Y n K V A B σ := by
  obtain ⟨wh, on, tw, th, dp, bg, ol, el, bk, a, b⟩ := h
  exact ⟨wh, on, tw, th, dp, bg, ol, el, bk, a.fr hf hS, b⟩
section JMP
variable {n s : Nat} {K V A B M L : Nat → Nat} {σ : Nat → List (Nat × Nat)}
/-- the heads that are open later: open already, or new -/
theorem jSs.later (hS : jSs n K M L σ) : ∀ m i, i + m ≤ n → ∀ y ∈ σ (i + m), (∃ x ∈ σ i, x.1 = y.1) ∨ i ≤ y.1 := by
  intro m
  induction m with
  | zero => intro i _ y hy; exact Or.inl ⟨y, hy, rfl⟩
  | succ m ih =>
    intro i hi y hy
    have old : (∃ x ∈ σ (i + m), x.1 = y.1) → (∃ x ∈ σ i, x.1 = y.1) ∨ i ≤ y.1 := fun ⟨z, z1, z2⟩ => by
      rw [← z2]; exact ih i (by omega) z z1
    rw [← Nat.add_assoc] at hy
    rcases hS.2 (i + m) (by omega) with ⟨k, e⟩ | ⟨k, e, e2, e3⟩ | ⟨k, h0, t0, e1, e2, e3, e4⟩ | ⟨k, h0, p0, t0, e1, e2, e3, e4, e5, e6⟩ | ⟨k, h0, t0, e1, e2, e3, e4, e5, e6⟩
    · rw [e] at hy; exact old ⟨y, hy, rfl⟩
    · rw [e] at hy
      rcases List.mem_cons.mp hy with z | z
      · rw [z]; exact Or.inr (by show i ≤ i + m; omega)
      · exact old ⟨y, z, rfl⟩
    · rw [e4] at hy
      rcases List.mem_cons.mp hy with z | z
      · exact old ⟨(h0, h0), by rw [e1]; exact List.mem_cons_self .., by rw [z]⟩
      · exact old ⟨y, by rw [e1]; exact List.mem_cons_of_mem _ z, rfl⟩
    · rw [e6] at hy; exact old ⟨y, by rw [e1]; exact List.mem_cons_of_mem _ hy, rfl⟩
    · rw [e6] at hy; exact old ⟨y, by rw [e1]; exact List.mem_cons_of_mem _ hy, rfl⟩
/-- a head that was closed is not open again -/
theorem jSs.gone (hS : jSs n K M L σ) {i : Nat} (hi : i < n) (hk : 8 ≤ K i) {x : Nat × Nat} {t : List (Nat × Nat)} (hx : σ i = x :: t) : ∀ y ∈ σ n, y.1 ≠ x.1 := fun y hy z => by
  have ht := hS.top i (by omega) x.1 x.2 t hx
  have e : σ (i + 1) = t := by
    rcases hS.2 i hi with ⟨k, e⟩ | ⟨k, e, e2, e3⟩ | ⟨k, h0, t0, e1, e2, e3, e4⟩ | ⟨k, h0, p0, t0, e1, e2, e3, e4, e5, e6⟩ | ⟨k, h0, t0, e1, e2, e3, e4, e5, e6⟩
    · omega
    · omega
    · omega
    · rw [e6]; rw [e1] at hx; exact (List.cons.inj hx).2
    · rw [e6]; rw [e1] at hx; exact (List.cons.inj hx).2
  have h1 := ht.1
  have := hS.later (n - (i + 1)) (i + 1) (by omega) y (by rw [show i + 1 + (n - (i + 1)) = n by omega]; exact hy)
  rcases this with ⟨w, w1, w2⟩ | w
  · rw [e] at w1
    have h8 : σ x.1 = t := ht.2.2.2.2.2.2.2.1
    have := (hS.mem (i := x.1) (by omega) (x := w) (by rw [h8]; exact w1)).1
    omega
  · omega
theorem jMp.mq {X : ja_H} (h : jMp X n K V A B σ) (hP : jPP n s K V A B M L σ) (hc : σ n = []) : jMq X n K V A B M L := by
  obtain ⟨wh, on, tw, th, dp, bg, ol, el, bk, hp, hl, -⟩ := h
  have hS := hP.2.2.1
  refine ⟨wh, on, tw, th, dp, bg, ol, el, bk, hp, hP.1, fun i hi => ?_⟩
  obtain ⟨l1, l2, l3, l4, l5, l6, l7, l8⟩ := hl i hi
  have hlen := hS.len (Nat.le_of_lt hi)
  refine ⟨l1, l2, l3, l4, ⟨_, ?_, l5⟩, fun hk => ?_, fun hk => ?_, fun hk => ?_, fun hk => ?_, fun hk => ?_⟩
  · split <;> omega
  · rw [l5, if_neg (by omega)]
    rcases hS.2 i hi with ⟨k, e⟩ | ⟨k, e, e2, e3⟩ | ⟨k, h0, t0, e1, e2, e3, e4⟩ | ⟨k, h0, p0, t0, e1, e2, e3, e4, e5, e6⟩ | ⟨k, h0, t0, e1, e2, e3, e4, e5, e6⟩
    · omega
    · rw [e2]
    · omega
    · omega
    · omega
  · rcases hS.2 i hi with ⟨k, e⟩ | ⟨k, e, e2, e3⟩ | ⟨k, h0, t0, e1, e2, e3, e4⟩ | ⟨k, h0, p0, t0, e1, e2, e3, e4, e5, e6⟩ | ⟨k, h0, t0, e1, e2, e3, e4, e5, e6⟩
    · omega
    · omega
    · have hE := hS.end1 hc (by omega) e1
      have hMM : M (M i) = h0 := by
        have : jE K M h0 = M i := by unfold jE; rw [e3, if_pos ⟨e2, hk⟩]
        rw [← this]; exact hE.2.2.1
      rw [hMM]
      exact l6 (Or.inl hk) _ _ e1
    · omega
    · omega
  · rcases hS.2 i hi with ⟨k, e⟩ | ⟨k, e, e2, e3⟩ | ⟨k, h0, t0, e1, e2, e3, e4⟩ | ⟨k, h0, p0, t0, e1, e2, e3, e4, e5, e6⟩ | ⟨k, h0, t0, e1, e2, e3, e4, e5, e6⟩
    · omega
    · omega
    · omega
    · rw [e4]; exact ⟨l6 (Or.inr hk) _ _ e1, l7 hk _ _ e1⟩
    · rw [e4]; exact ⟨l6 (Or.inr hk) _ _ e1, l7 hk _ _ e1⟩
  · rcases hS.2 i hi with ⟨k, e⟩ | ⟨k, e, e2, e3⟩ | ⟨k, h0, t0, e1, e2, e3, e4⟩ | ⟨k, h0, p0, t0, e1, e2, e3, e4, e5, e6⟩ | ⟨k, h0, t0, e1, e2, e3, e4, e5, e6⟩
    · omega
    · omega
    · omega
    · have o := l8 hk _ _ e1
      have o : ol h0 = if p0 = h0 then -1 else nI p0 := o
      obtain ⟨b1, b2, b3, b4, b5, b6, b7, b8, b9, b10⟩ := hS.top i (by omega) _ _ _ e1
      rw [e4, o]
      rcases b10 with z | ⟨-, -, z, -⟩
      · rw [if_pos z, ← z, e3, if_pos rfl]
      · by_cases w : p0 = h0
        · rw [if_pos w, ← w, e3, if_pos rfl]
        · rw [if_neg w, z, if_neg (by omega)]
    · omega
  · have hsl : σ (i + 1) = (i, i) :: σ i := by
      rcases hS.2 i hi with ⟨k, e⟩ | ⟨k, e, e2, e3⟩ | ⟨k, h0, t0, e1, e2, e3, e4⟩ | ⟨k, h0, p0, t0, e1, e2, e3, e4, e5, e6⟩ | ⟨k, h0, t0, e1, e2, e3, e4, e5, e6⟩
      · omega
      · exact e
      · omega
      · omega
      · omega
    obtain ⟨c1, c2, c3, c4, c5⟩ := hS.end1 hc (by omega) hsl
    generalize he : jE K M i = e at c1 c2 c3 c4 c5
    rcases hS.2 e c2 with ⟨k, e⟩ | ⟨k, e, e2, e3⟩ | ⟨k, h0, t0, e1, e2, e3, e4⟩ | ⟨k, h0, p0, t0, e1, e2, e3, e4, e5, e6⟩ | ⟨k, h0, t0, e1, e2, e3, e4, e5, e6⟩
    · omega
    · omega
    · omega
    · have h0i : h0 = i := by rw [← e4, c3]
      subst h0i
      have o := (hl e c2).2.2.2.2.2.2.2 k _ _ e1
      have o : ol h0 = if p0 = h0 then -1 else nI p0 := o
      obtain ⟨b1, b2, b3, b4, b5, b6, b7, b8, b9, b10⟩ := hS.top e (by omega) _ _ _ e1
      rw [o]
      rcases b10 with z | ⟨-, k6, z, zl⟩
      · rw [if_pos z, if_neg]
        rw [← z, e3]; omega
      · rw [if_neg (by omega), z, if_pos k6]
    · have h0i : h0 = i := by rw [← e4, c3]
      subst h0i
      omega
/-- a line more -/
theorem jMp_add {X' : ja_H} {k v a b h : Nat} {wh on tw th dp bg ol el bk : Nat → Int32} (hP : jPP n s K V A B M L σ) (hm : jMay K (σ n) k) (hk10 : k < 10)
    (hl : ∀ i, i < n → wh i = nI (if K i = 9 then 8 else K i) ∧ on i = nI (V i) ∧ tw i = nI (A i) ∧ th i = nI (B i) ∧ dp i = nI (if 8 ≤ K i then (σ i).length - 1 else (σ i).length) ∧ (K i = 6 ∨ 8 ≤ K i → ∀ x t, σ i = x :: t → bg i = nI x.1) ∧ (8 ≤ K i → ∀ x t, σ i = x :: t → el x.1 = nI i) ∧ (K i = 8 → ∀ x t, σ i = x :: t → ol x.1 = if x.2 = x.1 then -1 else nI x.2))
    (ho : ∀ x, x ∈ σ n → K x.1 = 5 → ol x.1 = if x.2 = x.1 then -1 else nI x.2) (hb : ∀ a x t, σ n = a ++ x :: t → bk t.length = nI x.1) (hh : ∀ x t, σ n = x :: t → x.1 = h)
    (hX : jPa X' (upd wh n (nI (if k = 9 then 8 else k))) (upd on n (nI v)) (upd tw n (nI a)) (upd th n (nI b)) (upd dp n (nI (if 8 ≤ k then (σ n).length - 1 else (σ n).length))) (if k = 6 ∨ 8 ≤ k then upd bg n (nI h) else bg) (upd (if k = 6 then upd ol h (nI n) else ol) n (-1)) (upd (if 8 ≤ k then upd el h (nI n) else el) n (-1)) (if k = 5 ∨ k = 7 then upd bk (σ n).length (nI n) else bk)) :
    jMp X' (n + 1) (va_up K n k) (va_up V n v) (va_up A n a) (va_up B n b) (va_up σ (n + 1) (jNx (σ n) k n)) := by
  have hS := hP.2.2.1
  have hlt : ∀ x ∈ σ n, x.1 < n := fun x hx => (hS.mem (Nat.le_refl n) hx).1
  have nd : ∀ x t, σ n = x :: t → ∀ y ∈ t, y.1 ≠ x.1 := fun x t e y hy => by
    have b8 := (hS.top n (Nat.le_refl n) x.1 x.2 t e).2.2.2.2.2.2.2.1
    have b1 := (hS.top n (Nat.le_refl n) x.1 x.2 t e).1
    have := (hS.mem (i := x.1) (by omega) (x := y) (by rw [b8]; exact hy)).1
    omega
  refine ⟨_, _, _, _, _, _, _, _, _, hX, fun i hi => ?_, fun x hx h5 => ?_, fun a' x t e => ?_⟩
  · have us : va_up σ (n + 1) (jNx (σ n) k n) i = σ i := jup_ne (by omega)
    rw [us]
    by_cases z : i = n
    · subst z
      simp only [pk_us, jup_self]
      refine ⟨trivial, trivial, trivial, trivial, trivial, fun hk x t e => ?_, fun hk x t e => ?_, fun hk x t e => ?_⟩
      · rw [if_pos hk, pk_us, hh x t e]
      · rw [if_pos hk, hh x t e, pk_un (by have := hlt x (by rw [e]; exact List.mem_cons_self ..); rw [hh x t e] at this; omega), pk_us]
      · have hx1 := hlt x (by rw [e]; exact List.mem_cons_self ..)
        rw [pk_un (by omega), if_neg (by omega)]
        obtain ⟨h', p', t', q1, q2⟩ := hm.2.2.1 hk
        refine ho x (by rw [e]; exact List.mem_cons_self ..) ?_
        rw [q1] at e
        rw [← (List.cons.inj e).1]
        exact q2
    · obtain ⟨l1, l2, l3, l4, l5, l6, l7, l8⟩ := hl i (by omega)
      simp only [pk_un z, jup_ne z]
      refine ⟨l1, l2, l3, l4, l5, fun hk x t e => ?_, fun hk x t e => ?_, fun hk x t e => ?_⟩
      · split
        · rw [pk_un z]; exact l6 hk x t e
        · exact l6 hk x t e
      · have hx := hS.mem (i := i) (by omega) (x := x) (by rw [e]; exact List.mem_cons_self ..)
        rw [pk_un (by omega)]
        split
        · rename_i h8
          have hne : x.1 ≠ h := by
            obtain ⟨y, t', e'⟩ : ∃ y t', σ n = y :: t' := by
              have h89 : k = 8 ∨ k = 9 := by omega
              rcases h89 with w | w
              · obtain ⟨h', p', t', q1, q2⟩ := hm.2.2.1 w; exact ⟨_, _, q1⟩
              · obtain ⟨h', p', t', q1, q2⟩ := hm.2.2.2 w; exact ⟨_, _, q1⟩
            have := hS.gone (by omega) hk e y (by rw [e']; exact List.mem_cons_self ..)
            rw [← hh y t' e']
            exact fun w => this w.symm
          rw [pk_un hne]; exact l7 hk x t e
        · exact l7 hk x t e
      · have hx := hS.mem (i := i) (by omega) (x := x) (by rw [e]; exact List.mem_cons_self ..)
        rw [pk_un (by omega)]
        split
        · rename_i h6
          have hne : x.1 ≠ h := by
            obtain ⟨h', t', q1, q2⟩ := hm.2.1 h6
            have := hS.gone (by omega) (by omega) e (h', h') (by rw [q1]; exact List.mem_cons_self ..)
            rw [← hh _ _ q1]
            exact fun w => this w.symm
          rw [pk_un hne]; exact l8 hk x t e
        · exact l8 hk x t e
  · rw [jup_self] at hx
    unfold jNx at hx
    by_cases h4 : k ≤ 4
    · rw [if_pos h4] at hx
      have := hlt x hx
      rw [jup_ne (by omega)] at h5
      rw [pk_un (by omega), if_neg (by omega)]
      exact ho x hx h5
    · rw [if_neg h4] at hx
      by_cases h57 : k = 5 ∨ k = 7
      · rw [if_pos h57] at hx
        rcases List.mem_cons.mp hx with z | z
        · rw [z]
          show upd (if k = 6 then upd ol h (nI n) else ol) n (-1) n = if n = n then -1 else nI n
          rw [pk_us, if_pos rfl]
        · have := hlt x z
          rw [jup_ne (by omega)] at h5
          rw [pk_un (by omega), if_neg (by omega)]
          exact ho x z h5
      · rw [if_neg h57] at hx
        by_cases h6 : k = 6
        · rw [if_pos h6] at hx
          obtain ⟨h', t', q1, q2⟩ := hm.2.1 h6
          rw [q1] at hx
          have hh' := hh _ _ q1
          have hh' : h' = h := hh'
          subst hh'
          have hn := hlt (h', h') (by rw [q1]; exact List.mem_cons_self ..)
          have hn : h' < n := hn
          rcases List.mem_cons.mp hx with z | z
          · rw [z]
            show upd (if k = 6 then upd ol h' (nI n) else ol) n (-1) h' = if n = h' then -1 else nI n
            rw [pk_un (by omega), if_pos h6, pk_us, if_neg (by omega)]
          · have hm' : x ∈ σ n := by rw [q1]; exact List.mem_cons_of_mem _ z
            have := hlt x hm'
            have hne := nd _ _ q1 x z
            rw [jup_ne (by omega)] at h5
            rw [pk_un (by omega), if_pos h6, pk_un hne]
            exact ho x hm' h5
        · rw [if_neg h6] at hx
          have hm' : x ∈ σ n := List.mem_of_mem_tail hx
          have := hlt x hm'
          rw [jup_ne (by omega)] at h5
          rw [pk_un (by omega), if_neg h6]
          exact ho x hm' h5
  · rw [jup_self] at e
    unfold jNx at e
    by_cases h4 : k ≤ 4
    · rw [if_pos h4] at e
      rw [if_neg (by omega)]
      exact hb a' x t e
    · rw [if_neg h4] at e
      by_cases h57 : k = 5 ∨ k = 7
      · rw [if_pos h57] at e
        rw [if_pos h57]
        cases a' with
        | nil =>
          have q := List.cons.inj e
          rw [← q.2, pk_us, ← q.1]
        | cons y a' =>
          have q : σ n = a' ++ x :: t := (List.cons.inj e).2
          have : t.length < (σ n).length := by rw [q]; simp; omega
          rw [pk_un (by omega)]
          exact hb a' x t q
      · rw [if_neg h57] at e
        rw [if_neg h57]
        by_cases h6 : k = 6
        · rw [if_pos h6] at e
          obtain ⟨h', t', q1, q2⟩ := hm.2.1 h6
          rw [q1] at e
          cases a' with
          | nil =>
            have q := List.cons.inj e
            rw [← q.2, ← q.1]
            exact hb [] (h', h') t' q1
          | cons y a' =>
            have q : t' = a' ++ x :: t := (List.cons.inj e).2
            exact hb ((h', h') :: a') x t (by rw [q1, q]; rfl)
        · rw [if_neg h6] at e
          cases hσ : σ n with
          | nil => rw [hσ] at e; cases a' <;> cases e
          | cons y t' =>
            rw [hσ] at e
            exact hb (y :: a') x t (by rw [hσ]; exact congrArg (y :: ·) e)
end JMP
