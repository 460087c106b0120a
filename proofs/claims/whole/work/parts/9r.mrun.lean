-- the model: run
/-- the values as they stand -/
def jVs (X : ja_H) (val : Nat → Nat) : Prop := ∃ vl : Nat → Int64, X[168]? = some (.inl (1, 5, .inr (.inl vl))) ∧ ∀ j, j < 5 → vl j = lN (val j) ∧ jwv (val j)
theorem jmap_wv {a : Nat} {t : Bool} (hd : jdg 4 a) (ha : a < 2 ^ 24) : jwv (jmap (fun c => jlet c t) a) := by
  have hf : ∀ c, 1 ≤ c → c ≤ 4 → 1 ≤ jlet c t ∧ jlet c t ≤ 8 := fun c h1 h2 => by unfold jlet; split <;> omega
  exact ⟨(jmap_dg (f := fun c => jlet c t) hf (by decide) _ hd).1, jmap_60 hd ha⟩
theorem jDo_wv {k v a b : Nat} {ip val : Nat → Nat} (hln : jLn k v a b) (hk : k < 4) (hips : ∀ j, j < 3 → jdg 4 (ip j) ∧ ip j < 2 ^ 24) (hv : ∀ j, j < 5 → jwv (val j)) (h : jDo k a b ip val ≠ jOV) : jwv (jDo k a b ip val) := by
  obtain ⟨-, -, h0, h1, h2, h3, -⟩ := hln
  unfold jDo at h ⊢
  by_cases k0 : k = 0
  · rw [if_pos k0]; exact jmap_wv (h0 k0).1 (h0 k0).2
  · rw [if_neg k0] at h ⊢
    by_cases k1 : k = 1
    · rw [if_pos k1]; exact jmap_wv (hips _ (h1 k1)).1 (hips _ (h1 k1)).2
    · rw [if_neg k1] at h ⊢
      by_cases k2 : k = 2
      · rw [if_pos k2] at h ⊢; exact jcat_wv (hv _ (h2 k2).1) (hv _ (h2 k2).2) h
      · rw [if_neg k2] at h ⊢
        exact japp_wv _ (hv _ (h3 (by omega)).1).1 h
section JNX
variable {n s hn : Nat} {K V A B M L ip wd pl val : Nat → Nat} {σ : Nat → List (Nat × Nat)} {md : Bool} {ed : Int32} {X : ja_H}
theorem jN1_do {i : Nat} (hln : jLn (K i) (V i) (A i) (B i)) (hk : K i < 4) (hips : ∀ j, j < 3 → jdg 4 (ip j) ∧ ip j < 2 ^ 24) : jN1 K V A B M ip i (val, hn, wd, pl) = if jDo (K i) (A i) (B i) ip val = jOV then (none, val, hn, wd, pl) else (some (i + 1), va_up val (V i) (jDo (K i) (A i) (B i) ip val), hn, wd, pl) := by
  obtain ⟨-, -, h0, h1, h2, h3, -⟩ := hln
  unfold jDo
  simp only [jN1]
  by_cases k0 : K i = 0
  · simp only [if_pos k0]; rw [if_neg (jov_ne (jmap_60 (h0 k0).1 (h0 k0).2))]
  · simp only [if_neg k0]
    by_cases k1 : K i = 1
    · simp only [if_pos k1]; rw [if_neg (jov_ne (jmap_60 (hips _ (h1 k1)).1 (hips _ (h1 k1)).2))]
    · simp only [if_neg k1]
      by_cases k2 : K i = 2
      · simp only [if_pos k2]
      · simp only [if_neg k2]; rw [if_pos (by omega)]
theorem jN1_hand {i : Nat} (hk : K i = 4) : jN1 K V A B M ip i (val, hn, wd, pl) = (some (i + 1), val, hn + 1, (if hn < 20 then va_up wd hn (val (V i)) else wd), (if hn < 20 then va_up pl hn (A i) else pl)) := by
  simp only [jN1]
  rw [if_neg (by omega), if_neg (by omega), if_neg (by omega), if_neg (by omega), if_pos hk]
theorem jN1_bh {i : Nat} (hk : 5 ≤ K i) : jN1 K V A B M ip i (val, hn, wd, pl) = (some (jBh K V A B M i val), val, hn, wd, pl) := by
  unfold jBh
  simp only [jN1]
  rw [if_neg (by omega), if_neg (by omega), if_neg (by omega), if_neg (by omega), if_neg (by omega)]
  by_cases k5 : K i = 5 ∨ K i = 7
  · simp only [if_pos k5]
  · simp only [if_neg k5]
    by_cases k6 : K i = 6
    · simp only [if_pos k6]
    · simp only [if_neg k6]
      by_cases k9 : K i = 9
      · simp only [if_pos k9]
      · simp only [if_neg k9]
theorem jBh_lt {i : Nat} (hk : K i < 5) : jBh K V A B M i val = i + 1 := by
  unfold jBh
  rw [if_neg (by omega), if_neg (by omega), if_neg (by omega)]
theorem jBh_le {i : Nat} (hi : i < n) (hM : 5 ≤ K i → M i < n) : jBh K V A B M i val ≤ n := by
  unfold jBh
  by_cases k5 : K i = 5 ∨ K i = 7
  · rw [if_pos k5]; have := hM (by omega); split <;> omega
  · rw [if_neg k5]
    by_cases k6 : K i = 6
    · rw [if_pos k6]; have := hM (by omega); omega
    · rw [if_neg k6]
      by_cases k9 : K i = 9
      · rw [if_pos k9]; have := hM (by omega); omega
      · rw [if_neg k9]; omega
/-- what a run may change -/
theorem jMdl.re (h : jMdl X n s K V A B M L σ md ip wd pl hn ed) : ∃ sc, X[145]? = some (jMo sc) ∧ (sc 0 = nI n ∧ sc 10 = nI (σ n).length ∧ sc 38 = ed ∧ sc 39 = nI hn) ∧ jMp X n K V A B σ ∧ jMi X ip wd pl hn ∧ ∀ (Y : ja_H) (sc' : Nat → Int32) (e : Int32) (hn' : Nat) (wd' pl' : Nat → Nat), Y[145]? = some (jMo sc') → (sc' 0 = sc 0 ∧ sc' 10 = sc 10 ∧ sc' 11 = sc 11 ∧ sc' 15 = sc 15 ∧ sc' 38 = e ∧ sc' 39 = nI hn') → jfr [145, 168, 169, 170] X Y → jMi Y ip wd' pl' hn' → jMdl Y n s K V A B M L σ md ip wd' pl' hn' e := by
  obtain ⟨sc, f, mf, rn, fa, he, ⟨s0, s10, s11, s15, s38, s39⟩, hmp, h158, h159, h166, hmi, hmd⟩ := h
  refine ⟨sc, he.c, ⟨s0, s10, s38, s39⟩, hmp, hmi, fun Y sc' e hn' wd' pl' hc hs hf hi => ?_⟩
  obtain ⟨t0, t10, t11, t15, t38, t39⟩ := hs
  have m : ∀ k ∈ [145, 168, 169, 170], k < 146 ∨ 166 < k := fun k hk => by
    simp only [List.mem_cons, List.not_mem_nil, or_false] at hk; omega
  have no : ∀ k, 146 ≤ k → k < 167 → k ∉ [145, 168, 169, 170] := fun k h1 h2 z => by have := m k z; omega
  exact ⟨sc', f, mf, rn, fa, he.sc hc hf (fun k hk => by have := m k hk; omega), ⟨t0.trans s0, t10.trans s10, t11.trans s11, t15.trans s15, t38, t39⟩, hmp.fr hf (fun k hk => by have := m k hk; omega), hf.at (no _ (by decide) (by decide)) h158, hf.at (no _ (by decide) (by decide)) h159, hf.at (no _ (by decide) (by decide)) h166, hi, hmd⟩
theorem jMi.hand {Y : ja_H} {x a : Nat} {ipf plf : Nat → Int32} {wdf vl : Nat → Int64} {c : ja_C} (i0 : X[167]? = some (.inl (0, 3, .inl ipf))) (i1 : X[168]? = some (.inl (1, 5, .inr (.inl vl)))) (i2 : X[169]? = some (.inl (1, 20, .inr (.inl wdf)))) (i3 : X[170]? = some (.inl (0, 20, .inl plf))) (i4 : ∀ i, i < 3 → ipf i = nI (ip i) ∧ jdg 4 (ip i) ∧ ip i < 2 ^ 24) (i5 : ∀ i, i < 20 → i < hn → wdf i = lN (wd i) ∧ plf i = nI (pl i)) (hY : Y = if hn < 20 then ((X.set 169 (.inl (1, 20, .inr (.inl (vp_updL wdf hn (lN x)))))).set 170 (.inl (0, 20, .inl (upd plf hn (nI a))))).set 145 c else X.set 145 c) :
    jMi Y ip (if hn < 20 then va_up wd hn x else wd) (if hn < 20 then va_up pl hn a else pl) (hn + 1) ∧ Y[145]? = some c ∧ Y[168]? = some (.inl (1, 5, .inr (.inl vl))) ∧ jfr [145, 168, 169, 170] X Y := by
  have l170 : 170 < X.length := (List.getElem?_eq_some_iff.mp i3).1
  have fS : ∀ (Y : ja_H) (p : Nat) (c : ja_C), p ∈ [145, 168, 169, 170] → jfr [145, 168, 169, 170] Y (Y.set p c) := fun Y p c hp => (jset_fr Y p c).mono (fun k hk => by rw [List.mem_singleton.mp hk]; exact hp)
  by_cases z : hn < 20
  · rw [if_pos z] at hY
    rw [if_pos z, if_pos z]
    subst hY
    refine ⟨⟨ipf, upd plf hn (nI a), vp_updL wdf hn (lN x), vl, ?_, ?_, ?_, ?_, i4, fun i h1 h2 => ?_⟩, ?_, ?_, ((fS _ _ _ (by decide)).tr (fS _ _ _ (by decide))).tr (fS _ _ _ (by decide))⟩
    · rw [List.getElem?_set_ne (by decide), List.getElem?_set_ne (by decide), List.getElem?_set_ne (by decide)]; exact i0
    · rw [List.getElem?_set_ne (by decide), List.getElem?_set_ne (by decide), List.getElem?_set_ne (by decide)]; exact i1
    · rw [List.getElem?_set_ne (by decide), List.getElem?_set_ne (by decide)]; exact List.getElem?_set_self (by omega)
    · rw [List.getElem?_set_ne (by decide)]; exact List.getElem?_set_self (by simp; omega)
    · by_cases zi : i = hn
      · subst zi; rw [pk_uLs, pk_us, jup_self, jup_self]; exact ⟨rfl, rfl⟩
      · rw [pk_uLn zi, pk_un zi, jup_ne zi, jup_ne zi]; exact i5 i h1 (by omega)
    · exact List.getElem?_set_self (by simp; omega)
    · rw [List.getElem?_set_ne (by decide), List.getElem?_set_ne (by decide), List.getElem?_set_ne (by decide)]; exact i1
  · rw [if_neg z] at hY
    rw [if_neg z, if_neg z]
    subst hY
    refine ⟨⟨ipf, plf, wdf, vl, ?_, ?_, ?_, ?_, i4, fun i h1 h2 => i5 i h1 (by omega)⟩, ?_, ?_, fS _ _ _ (by decide)⟩
    · rw [List.getElem?_set_ne (by decide)]; exact i0
    · rw [List.getElem?_set_ne (by decide)]; exact i1
    · rw [List.getElem?_set_ne (by decide)]; exact i2
    · rw [List.getElem?_set_ne (by decide)]; exact i3
    · exact List.getElem?_set_self (by omega)
    · rw [List.getElem?_set_ne (by decide)]; exact i1
end JNX
