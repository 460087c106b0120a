-- languages: what is made of a set of words; how often a language grows
theorem jbits_ex (Q : Nat → Prop) : ∀ k, ∃ S, S < 2 ^ k ∧ ∀ c, c < k → (S.testBit c = true ↔ Q c)
  | 0 => ⟨0, by decide, fun c hc => absurd hc (by omega)⟩
  | k + 1 => by
    obtain ⟨S, h1, h2⟩ := jbits_ex Q k
    have hk : S.testBit k = false := Nat.testBit_lt_two_pow h1
    by_cases hq : Q k
    · refine ⟨2 ^ k + S, by rw [Nat.pow_succ]; omega, fun c hc => ?_⟩
      by_cases hck : c = k
      · subst hck
        rw [Nat.testBit_two_pow_add_eq, hk]
        exact ⟨fun _ => hq, fun _ => rfl⟩
      · rw [Nat.testBit_two_pow_add_gt (by omega)]
        exact h2 c (by omega)
    · refine ⟨S, by rw [Nat.pow_succ]; omega, fun c hc => ?_⟩
      by_cases hck : c = k
      · subst hck
        rw [hk]
        exact ⟨fun z => (by cases z), fun z => absurd z hq⟩
      · exact h2 c (by omega)
theorem jLet_ex (P : List Nat → Bool) : ∃ S, jLet P S := by
  obtain ⟨S, h1, h2⟩ := jbits_ex (fun c => ∃ w, jok w ∧ c ∈ w ∧ P w = true) 8
  exact ⟨S, h1, h2⟩
theorem jFitL_mk (P : List Nat → Bool) : jFitL P (jMk P) := by
  by_cases h : ∃ m G x, jHas P m G x
  · obtain ⟨m, G, x, h⟩ := h
    have := jFit.of (Or.inl h : jFit P m G x)
    rw [jMk_of this]
    exact this
  · obtain ⟨S, hS⟩ := jLet_ex P
    have hA : jAll S (if S = 255 then 1 else 2) 1 (fun s => if s < 8 then (if S.testBit s then 0 else 1) else 1) := ⟨rfl, rfl, fun _ _ => rfl⟩
    have := jFit.of (Or.inr ⟨h, S, hS, hA⟩ : jFit P _ _ _)
    rw [jMk_of this]
    exact this
theorem jMk_ok (P : List Nat → Bool) : jOk (jMk P) := (jFitL_mk P).ok
theorem jAll_ac {S m G : Nat} {x : Nat → Nat} (hS : S < 256) (h : jAll S m G x) {w : List Nat} (hw : jok w) : G.testBit (jgo x 0 w) = true ↔ ∀ c ∈ w, S.testBit c = true := by
  obtain ⟨rfl, rfl, hx⟩ := h
  induction w with
  | nil => exact ⟨fun _ c z => (by cases z), fun _ => (by decide : Nat.testBit 1 0 = true)⟩
  | cons c w ih =>
    obtain ⟨hc, hw'⟩ := jok_cons.mp hw
    have e0 : x (0 * 8 + c) = if S.testBit c then 0 else 1 := by rw [hx _ (by split <;> omega), if_pos (by omega), Nat.zero_mul, Nat.zero_add]
    show Nat.testBit 1 (jgo x (x (0 * 8 + c)) w) = true ↔ _
    rw [e0]
    cases hb : S.testBit c with
    | true =>
      refine (ih hw').trans ⟨fun z d hd => ?_, fun z d hd => z d (List.mem_cons_of_mem _ hd)⟩
      rcases List.mem_cons.mp hd with rfl | hd
      · exact hb
      · exact z d hd
    | false =>
      have h255 : S ≠ 255 := fun z => by
        subst z
        have : ∀ s, s < 8 → Nat.testBit 255 s = true := by decide
        rw [this c hc] at hb
        cases hb
      rw [if_neg h255] at hx
      have stay : ∀ v : List Nat, jok v → jgo x 1 v = 1 := by
        intro v
        induction v with
        | nil => intro _; rfl
        | cons d v ihv =>
          intro hv
          obtain ⟨hd, hv'⟩ := jok_cons.mp hv
          show jgo x (x (1 * 8 + d)) v = 1
          rw [hx _ (by omega), if_neg (by omega)]
          exact ihv hv'
      show Nat.testBit 1 (jgo x 1 w) = true ↔ _
      rw [stay w hw']
      constructor
      · intro z; exact absurd z (by decide)
      · intro z
        have := z c (List.mem_cons_self ..)
        rw [hb] at this
        cases this
theorem jMk_sup {P : List Nat → Bool} {w : List Nat} (hw : jok w) (hP : P w = true) : jAc (jMk P) w = true := by
  rcases (jFitL_mk P).2 with h | ⟨-, S, hS, h⟩
  · exact (h.2 w hw).trans hP
  · refine (jAll_ac hS.1 h hw).mpr (fun c hc => (hS.2 c (hw c hc)).mpr ⟨w, hw, hc, hP⟩)
theorem jAllL_ac {S : Nat} (hS : S < 256) {w : List Nat} (hw : jok w) : jAc (jAllL S) w = true ↔ ∀ c ∈ w, S.testBit c = true := by
  have hA : jAll S (jAllL S).1 (jAllL S).2.1 (jXf (jAllL S)) := ⟨rfl, rfl, fun s hs => jXf_of (G := 1) (x := fun s => if s < 8 then (if S.testBit s then 0 else 1) else 1) hs⟩
  exact jAll_ac hS hA hw
theorem jAllL_let {S : Nat} (hS : S < 256) : jLet (jAc (jAllL S)) S := by
  refine ⟨hS, fun c hc => ⟨fun hb => ⟨[c], fun d hd => by rw [List.mem_singleton.mp hd]; exact hc, List.mem_singleton.mpr rfl, ?_⟩, ?_⟩⟩
  · exact (jAllL_ac hS (fun d hd => by rw [List.mem_singleton.mp hd]; exact hc)).mpr (fun d hd => by rw [List.mem_singleton.mp hd]; exact hb)
  · rintro ⟨w, w1, w2, w3⟩
    exact (jAllL_ac hS w1).mp w3 c w2
def jpc (S : Nat) : Nat → Nat
  | 0 => 0
  | k + 1 => jpc S k + (S.testBit k).toNat
theorem jpc_le (S : Nat) : ∀ k, jpc S k ≤ k
  | 0 => Nat.le_refl _
  | k + 1 => by have := jpc_le S k; rw [jpc]; cases S.testBit k <;> simp <;> omega
theorem jpc_mono {S T : Nat} : ∀ k, (∀ c, c < k → S.testBit c = true → T.testBit c = true) → jpc S k ≤ jpc T k
  | 0, _ => Nat.le_refl _
  | k + 1, h => by
    have := jpc_mono k (fun c hc => h c (by omega))
    have h2 := h k (by omega)
    rw [jpc, jpc]
    cases hs : S.testBit k <;> cases ht : T.testBit k <;> simp <;> first | omega | (rw [hs, ht] at h2; exact absurd (h2 rfl) (by decide))
theorem jpc_lt {S T : Nat} : ∀ k, (∀ c, c < k → S.testBit c = true → T.testBit c = true) → (∃ c, c < k ∧ S.testBit c = false ∧ T.testBit c = true) → jpc S k < jpc T k
  | 0, _, h => by obtain ⟨c, hc, -⟩ := h; omega
  | k + 1, h, ⟨c, hc, h1, h2⟩ => by
    have hm := jpc_mono k (fun c hc => h c (by omega))
    rw [jpc, jpc]
    by_cases hck : c = k
    · subst hck
      rw [h1, h2]; simp; omega
    · have := jpc_lt k (fun c hc => h c (by omega)) ⟨c, by omega, h1, h2⟩
      have h3 := h k (by omega)
      cases hs : S.testBit k <;> cases ht : T.testBit k <;> simp <;> first | omega | (rw [hs, ht] at h3; exact absurd (h3 rfl) (by decide))
noncomputable def jRk (H : jLan) : Nat := @dite Nat (∃ S, S < 256 ∧ H = jAllL S) (Classical.propDecidable _) (fun h => 1 + jpc (Classical.choose h) 8) (fun _ => 0)
theorem jRk_all {S : Nat} (hS : S < 256) : jRk (jAllL S) = 1 + jpc S 8 := by
  have hex : ∃ T, T < 256 ∧ jAllL S = jAllL T := ⟨S, hS, rfl⟩
  unfold jRk
  rw [dif_pos hex]
  obtain ⟨h1, h2⟩ := Classical.choose_spec hex
  have : Classical.choose hex = S := (jAllL_let h1).uniq (jAllL_let hS) (fun w _ => by rw [← h2])
  rw [this]
theorem jRk_no {H : jLan} (h : ¬ ∃ S, S < 256 ∧ H = jAllL S) : jRk H = 0 := by
  unfold jRk
  rw [dif_neg h]
theorem jRk_le (H : jLan) : jRk H ≤ 9 := by
  unfold jRk
  by_cases h : ∃ S, S < 256 ∧ H = jAllL S
  · rw [dif_pos h]; have := jpc_le (Classical.choose h) 8; omega
  · rw [dif_neg h]; omega
theorem jUni_ok (A B : jLan) : jOk (jUni A B) := jMk_ok _
theorem jRk_up {A H : jLan} (hH : jOk H) (hU : jUni A H ≠ H) : jRk H < jRk (jWid (jUni A H)) := by
  have hsup : ∀ w, jok w → jAc H w = true → jAc (jUni A H) w = true := fun w hw h => jMk_sup (P := fun w => jAc A w || jAc H w) hw (by show (jAc A w || jAc H w) = true; rw [h, Bool.or_true])
  have hne : jUni A H ≠ jEmp := fun z => hU (by
    refine (jUni_ok A H).ext hH (fun w hw => ?_)
    have h0 : jAc (jUni A H) w = false := by rw [z]; exact Nat.zero_testBit _
    rw [h0]
    cases hb : jAc H w with
    | false => rfl
    | true => rw [hsup w hw hb] at h0; cases h0)
  obtain ⟨T, hT⟩ := jLet_ex (jAc (jUni A H))
  have hw : jWid (jUni A H) = jAllL T := by unfold jWid; rw [if_neg hne, jSet_of hT]
  rw [hw, jRk_all hT.1]
  by_cases hex : ∃ S, S < 256 ∧ H = jAllL S
  · obtain ⟨S, hS, rfl⟩ := hex
    rw [jRk_all hS]
    have hst : ∀ c, c < 8 → S.testBit c = true → T.testBit c = true := fun c hc hb => (hT.2 c hc).mpr (by
      obtain ⟨w, w1, w2, w3⟩ := ((jAllL_let hS).2 c hc).mp hb
      exact ⟨w, w1, w2, hsup w w1 w3⟩)
    have : jpc S 8 < jpc T 8 := jpc_lt 8 hst (Classical.byContradiction fun hno => hU (by
      refine (jUni_ok A _).ext hH (fun w hw => ?_)
      rw [Bool.eq_iff_iff]
      refine ⟨fun h => (jAllL_ac hS hw).mpr (fun c hc => ?_), hsup w hw⟩
      have ht := (hT.2 c (hw c hc)).mpr ⟨w, hw, hc, h⟩
      cases hb : S.testBit c with
      | true => rfl
      | false => exact absurd ⟨c, hw c hc, hb, ht⟩ hno))
    omega
  · rw [jRk_no hex]; omega
def jSm (f : Nat → Nat) : Nat → Nat
  | 0 => 0
  | k + 1 => jSm f k + f k
theorem jSm_le {f g : Nat → Nat} : ∀ k, (∀ v, v < k → f v ≤ g v) → jSm f k ≤ jSm g k
  | 0, _ => Nat.le_refl _
  | k + 1, h => by have := jSm_le k (fun v hv => h v (by omega)); have := h k (by omega); rw [jSm, jSm]; omega
theorem jSm_lt {f g : Nat → Nat} : ∀ k, (∀ v, v < k → f v ≤ g v) → (∃ v, v < k ∧ f v < g v) → jSm f k < jSm g k
  | 0, _, h => by obtain ⟨v, hv, -⟩ := h; omega
  | k + 1, h, ⟨v, hv, hl⟩ => by
    have h1 := jSm_le k (fun v hv => h v (by omega))
    have h2 := h k (by omega)
    rw [jSm, jSm]
    by_cases hvk : v = k
    · subst hvk; omega
    · have := jSm_lt k (fun v hv => h v (by omega)) ⟨v, by omega, hl⟩
      omega
theorem jSm_b {f : Nat → Nat} {b : Nat} (h : ∀ v, f v ≤ b) : ∀ k, jSm f k ≤ k * b
  | 0 => by simp [jSm]
  | k + 1 => by have := jSm_b h k; have := h k; rw [jSm, Nat.succ_mul]; omega
/-- how many rounds a loop may still have -/
noncomputable def jRm (R : Nat) (hl : Nat → jLan) : Nat := if R < 2 then 47 - R else jSm (fun v => 9 - jRk (hl v)) 5
theorem jRm_le (R : Nat) (hl : Nat → jLan) : jRm R hl ≤ 47 := by
  unfold jRm
  split
  · omega
  · have := jSm_b (f := fun v => 9 - jRk (hl v)) (b := 9) (fun v => by show 9 - jRk (hl v) ≤ 9; omega) 5
    omega
theorem jDn_f {nw hl : Nat → jLan} : ∀ k, jDn nw hl k = false → ∃ v, v < k ∧ jUni (nw v) (hl v) ≠ hl v
  | 0, h => by cases h
  | k + 1, h => by
    rw [jDn] at h
    by_cases hk : jUni (nw k) (hl k) = hl k
    · rw [decide_eq_true hk, Bool.and_true] at h
      obtain ⟨v, hv, hne⟩ := jDn_f k h
      exact ⟨v, by omega, hne⟩
    · exact ⟨k, by omega, hk⟩
theorem jRm_lt {R : Nat} {nw hl : Nat → jLan} (hok : ∀ v, v < 5 → jOk (hl v)) (hd : jDn nw hl 5 = false) : jRm (R + 1) (fun v => jCr1 (decide (3 ≤ R + 1)) (nw v) (hl v)) < jRm R hl := by
  unfold jRm
  by_cases h1 : R + 1 < 2
  · rw [if_pos h1, if_pos (by omega)]; omega
  · rw [if_neg h1]
    by_cases h2 : R < 2
    · rw [if_pos h2]
      have := jSm_b (f := fun v => 9 - jRk (jCr1 (decide (3 ≤ R + 1)) (nw v) (hl v))) (b := 9) (fun v => by show 9 - _ ≤ 9; omega) 5
      show jSm (fun v => 9 - jRk (jCr1 (decide (3 ≤ R + 1)) (nw v) (hl v))) 5 < 47 - R
      omega
    · rw [if_neg h2]
      have hw : decide (3 ≤ R + 1) = true := decide_eq_true (by omega)
      have up : ∀ v, v < 5 → jUni (nw v) (hl v) ≠ hl v → jRk (hl v) < jRk (jCr1 (decide (3 ≤ R + 1)) (nw v) (hl v)) := fun v hv hne => by
        unfold jCr1
        rw [if_neg hne, hw]
        exact jRk_up (hok v hv) hne
      refine jSm_lt 5 (fun v hv => ?_) ?_
      · show 9 - jRk (jCr1 (decide (3 ≤ R + 1)) (nw v) (hl v)) ≤ 9 - jRk (hl v)
        by_cases he : jUni (nw v) (hl v) = hl v
        · unfold jCr1; rw [if_pos he]; exact Nat.le_refl _
        · have := up v hv he; omega
      · obtain ⟨v, hv, hne⟩ := jDn_f 5 hd
        refine ⟨v, hv, ?_⟩
        have h3 := up v hv hne
        have h4 := jRk_le (jCr1 (decide (3 ≤ R + 1)) (nw v) (hl v))
        show 9 - jRk (jCr1 (decide (3 ≤ R + 1)) (nw v) (hl v)) < 9 - jRk (hl v)
        omega
