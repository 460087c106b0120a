-- the law: both states side by side
theorem nI_any (x : Int32) : ∃ a, x = nI a := ⟨x.toBitVec.toNat, by
  apply Int32.toBitVec_inj.mp
  show x.toBitVec = BitVec.ofNat 32 x.toBitVec.toNat
  simp⟩
theorem lN_any (x : Int64) : ∃ w, w < 2 ^ 64 ∧ x = lN w := ⟨x.toBitVec.toNat, x.toBitVec.isLt, by
  apply Int64.toBitVec_inj.mp
  show x.toBitVec = BitVec.ofNat 64 x.toBitVec.toNat
  simp⟩
theorem j31 (x : Int32) : ∃ c, c < 32 ∧ x &&& nI 31 = nI c := by
  obtain ⟨a, rfl⟩ := nI_any x
  exact ⟨a &&& 31, Nat.lt_of_le_of_lt Nat.and_le_right (by decide), jb_and a 31⟩
section JLAW1
variable {X Y : ja_H} {n s hn : Nat} {K V A B M L ip wd pl : Nat → Nat} {σ : Nat → List (Nat × Nat)} {md : Bool} {ed : Int32}
theorem jMdl.fr {S : List Nat} (h : jMdl X n s K V A B M L σ md ip wd pl hn ed) (hf : jfr S X Y) (hS : ∀ k ∈ S, k < 145) : jMdl Y n s K V A B M L σ md ip wd pl hn ed := by
  obtain ⟨sc, f, mf, rn, fa, he, hsc, hmp, h158, h159, h166, hmi, hmd⟩ := h
  have no : ∀ k, 145 ≤ k → k ∉ S := fun k hk z => by have := hS k z; omega
  exact ⟨sc, f, mf, rn, fa, he.fr hf (fun k hk z => by have h1 := hS k hk; simp only [jMks, List.mem_cons, List.not_mem_nil, or_false] at z; omega), hsc, hmp.fr hf (fun k hk => by have := hS k hk; omega), hf.at (no _ (by decide)) h158, hf.at (no _ (by decide)) h159, hf.at (no _ (by decide)) h166, hmi.fr hf (fun k hk => by have := hS k hk; omega), hmd⟩
theorem jCl.sub (h : jCl X 0 0 K V A B M L σ false ip wd pl hn ed) (hs : ∀ (k : Nat) (c : ja_C), X[k]? = some c → Y[k]? = some c) : jCl Y 0 0 K V A B M L σ false ip wd pl hn ed := by
  obtain ⟨a1, a2, ⟨kd, vr, fs, sc, mt, lv, pt, hd, r, rl, rs⟩, ⟨un, rd, a4, -⟩, ⟨sk, ⟨⟨f, f1, f2⟩, a5⟩, -⟩, a6, ⟨c', wt, a7, -⟩, ⟨val, ipf, plf, wdf, vlf, ⟨n0, n1, n2, n3, n4⟩, nr⟩, a9⟩ := h
  have h2 : ∀ (k : Nat) (c : ja_C), 2 ≤ k → X[k]? = some c → Y[k]? = some c := fun k c _ e => hs k c e
  exact ⟨hs _ _ a1, a2, ⟨kd, vr, fs, sc, mt, lv, pt, hd, jsub_Rr h2 r, rl, rs⟩, ⟨un, rd, jsub_A0 h2 a4, fun z => (by cases z)⟩, ⟨fun _ => none, jsub_Sk h2 ⟨⟨f, f1, f2⟩, fun i hi => ⟨(a5 i hi).1, fun L' e => (by cases e)⟩⟩, fun z => (by cases z)⟩, jsub_Lv h2 (by decide) a6, ⟨c', wt, jsub_Wv h2 a7, fun z => (by cases z)⟩, ⟨val, ipf, plf, wdf, vlf, ⟨hs _ _ n0, hs _ _ n1, hs _ _ n2, hs _ _ n3, hs _ _ n4⟩, nr⟩, a9⟩
theorem jMdl_0 (hX : X.length = 145) : jMdl (X ++ jcM 145) 0 0 K V A B M L (fun _ => []) false (fun _ => 0) wd pl 0 (-1) := by
  have hi : ∀ (k : Nat) (c : ja_C), (jcM 145)[k]? = some c → (X ++ jcM 145)[145 + k]? = some c := fun k c e => by rw [List.getElem?_append_right (by omega), hX, Nat.add_sub_cancel_left]; exact e
  refine ⟨fun k => if k = 38 then -1 else 0, fun _ => none, fun _ => 0, fun _ => 0, fun _ => 0, ⟨fun _ => 0, fun _ => 0, fun _ => 0, fun _ => 0, fun _ => 0, fun _ => 0, fun _ => 0, fun _ => 0, fun _ => 0, ⟨hi 0 _ rfl, hi 10 _ rfl, hi 11 _ rfl, hi 12 _ rfl, hi 15 _ rfl, hi 16 _ rfl, hi 17 _ rfl, hi 18 _ rfl, hi 19 _ rfl, hi 20 _ rfl⟩, fun a L' _ e => (by cases e)⟩, ⟨rfl, rfl, rfl, rfl, rfl, rfl⟩, ⟨fun _ => 0, fun _ => 0, fun _ => 0, fun _ => 0, fun _ => 0, fun _ => 0, fun _ => 0, fun _ => 0, fun _ => 0, ⟨hi 1 _ rfl, hi 2 _ rfl, hi 3 _ rfl, hi 4 _ rfl, hi 5 _ rfl, hi 6 _ rfl, hi 7 _ rfl, hi 8 _ rfl, hi 9 _ rfl⟩, fun i hi => absurd hi (by omega), fun x hx => (by cases hx), fun a x t e => (by cases a <;> cases e)⟩, hi 13 _ rfl, hi 14 _ rfl, hi 21 _ rfl, ⟨fun _ => 0, fun _ => 0, fun _ => 0, fun _ => 0, hi 22 _ rfl, hi 23 _ rfl, hi 24 _ rfl, hi 25 _ rfl, fun i _ => ⟨rfl, jdg_0 4, (by decide : (0 : Nat) < 2 ^ 24)⟩, fun i _ hi => absurd hi (by omega)⟩, fun z => (by cases z)⟩
/-- the class and the reference hold the same -/
def jBoth (X : ja_H) : Prop := ∃ (n s : Nat) (K V A B M L : Nat → Nat) (σ : Nat → List (Nat × Nat)) (md : Bool) (ip wd pl : Nat → Nat) (hn : Nat) (ed : Int32), jCl X n s K V A B M L σ md ip wd pl hn ed ∧ jMdl X n s K V A B M L σ md ip wd pl hn ed
theorem jBoth.c1 (h : jBoth X) : X[1]? = some (.inr (9, [.ref 2, .ref 11, .ref 140])) := by
  obtain ⟨_, _, _, _, _, _, _, _, _, _, _, _, _, _, _, h, -⟩ := h
  exact h.1
theorem jBoth.cm (h : jBoth X) : ∃ sc, X[145]? = some (jMo sc) := by
  obtain ⟨_, _, _, _, _, _, _, _, _, _, _, _, _, _, _, -, sc, _, _, _, _, h, -⟩ := h
  exact ⟨sc, h.c⟩
theorem jCS_lt : ∀ k ∈ jCS, k < 145 := fun k hk => by have := jCS_mem.mp hk; omega
theorem jMS_ge : ∀ k ∈ jMS, 145 ≤ k := fun k hk => (jMS_mem.mp hk).1
theorem jBoth.mk (hC : jCl X n s K V A B M L σ md ip wd pl hn ed) (hM : jMdl X n s K V A B M L σ md ip wd pl hn ed) : jBoth X := ⟨n, s, K, V, A, B, M, L, σ, md, ip, wd, pl, hn, ed, hC, hM⟩
/-- what a call of the reference must do behind the class's: the same answer, and both states stay the same -/
def jAgr (l : Launch) (D : va_G) (g : Nat × Nat) (d2 : Nat) (mm : ja_M) (am : List Value) (v : Value) (X : ja_H) : Prop := (∃ sc, X[145]? = some (jMo sc)) ∧ AMet l D g d2 0 0 mm am X (fun r X2 => r = some v ∧ jBoth X2)
theorem jMdl.cell (h : jMdl X n s K V A B M L σ md ip wd pl hn ed) : ∃ sc, X[145]? = some (jMo sc) := by
  obtain ⟨sc, _, _, _, _, h, -⟩ := h
  exact ⟨sc, h.c⟩
variable (l : Launch) (D : va_G) (g : Nat × Nat)
theorem jagr_add {ok : Bool} {k v a b d2 : Nat} {mm : ja_M} {am : List Value} {r : Option Value} {X1 : ja_H} (hC : jCl X n s K V A B M L σ md ip wd pl hn ed) (hMd : jMdl X n s K V A B M L σ md ip wd pl hn ed) (hq : jAdd X n s K V A B M L σ ip wd pl hn ed ok k v a b r X1) (hM : ∀ Y, jMdl Y n s K V A B M L σ md ip wd pl hn ed → AMet l D g d2 0 0 mm am Y (jAdM Y n s K V A B M L σ ip wd pl hn ed ok k v a b)) : ∃ x : Int32, r = some (.int x) ∧ jAgr l D g d2 mm am (.int x) X1 := by
  have hn24 := hC.2.1.1
  by_cases hok : ok = true ∧ n < 24
  · obtain ⟨rfl, hC1, f1⟩ := hq.1 hok.1 hok.2
    have hM1 := hMd.fr f1 jCS_lt
    refine ⟨_, rfl, hM1.cell, (hM X1 hM1).post (fun r2 X2 h2 => ?_)⟩
    obtain ⟨rfl, m1, f2⟩ := h2.1 hok.1 hok.2
    exact ⟨rfl, .mk (hC1.fr f2 jMS_ge) m1⟩
  · have hno : ok = false ∨ n = 24 := by
      by_cases z : ok = true
      · exact Or.inr (by have : ¬ n < 24 := fun y => hok ⟨z, y⟩; omega)
      · exact Or.inl (by cases ok <;> simp_all)
    obtain ⟨rfl, e⟩ := hq.2 hno
    subst e
    refine ⟨_, rfl, hMd.cell, (hM _ hMd).post (fun r2 X2 h2 => ?_)⟩
    obtain ⟨rfl, e⟩ := h2.2 hno
    subst e
    exact ⟨rfl, .mk hC hMd⟩
theorem jagr_same {d2 : Nat} {mm : ja_M} {am : List Value} {v : Value} (hb : jBoth X) (hM : AMet l D g d2 0 0 mm am X (fun r X' => r = some v ∧ X' = X)) : jAgr l D g d2 mm am v X := ⟨hb.cm, hM.post (fun r2 X2 h2 => ⟨h2.1, by rw [h2.2]; exact hb⟩)⟩
theorem jagr_clear {r : Option Value} {X1 : ja_H} (hMd : jMdl X n s K V A B M L σ md ip wd pl hn ed) (hq : r = some (.int (nI n)) ∧ jCl X1 0 0 K V A B M L (fun _ => []) false ip wd pl hn ed ∧ jfr jCS X X1) : ∃ x : Int32, r = some (.int x) ∧ jAgr l D g 0 m_M_clear [.ref 145] (.int x) X1 := by
  obtain ⟨rfl, hC1, f1⟩ := hq
  have hM1 := hMd.fr f1 jCS_lt
  exact ⟨_, rfl, hM1.cell, (c_M_clear l D g hM1).post (fun r2 X2 h2 => ⟨h2.1, .mk (hC1.fr h2.2.2 jMS_ge) h2.2.1⟩)⟩
theorem jagr_analyse {r : Option Value} {X1 : ja_H} (hC : jCl X n s K V A B M L σ md ip wd pl hn ed) (hMd : jMdl X n s K V A B M L σ md ip wd pl hn ed) (hq : ((σ n).length ≠ 0 → r = some (.int (-1)) ∧ X1 = X) ∧ ((σ n).length = 0 → r = some (.int (nI (jUn (fun k => jWt (jSn (jFin n K V A B M L) k)) s))) ∧ jCl X1 n s K V A B M L σ true ip wd pl hn ed ∧ jfr jCS X X1)) : ∃ x : Int32, r = some (.int x) ∧ jAgr l D g 11 m_M_analyse [.ref 145] (.int x) X1 := by
  by_cases z : (σ n).length = 0
  · obtain ⟨rfl, hC1, f1⟩ := hq.2 z
    have hM1 := hMd.fr f1 jCS_lt
    refine ⟨_, rfl, hM1.cell, (c_M_analyse l D g hM1 hC.2.1).post (fun r2 X2 h2 => ?_)⟩
    obtain ⟨rfl, m1, f2⟩ := h2.2 z
    exact ⟨rfl, .mk (hC1.fr f2 jMS_ge) m1⟩
  · obtain ⟨rfl, e⟩ := hq.1 z
    subst e
    refine ⟨_, rfl, hMd.cell, (c_M_analyse l D g hMd hC.2.1).post (fun r2 X2 h2 => ?_)⟩
    obtain ⟨rfl, e⟩ := h2.1 z
    subst e
    exact ⟨rfl, .mk hC hMd⟩
theorem jagr_give {x c : Int32} {r : Option Value} {X1 : ja_H} (hC : jCl X n s K V A B M L σ md ip wd pl hn ed) (hMd : jMdl X n s K V A B M L σ md ip wd pl hn ed) (hq : ((jin 3 x && jokc c) = true → r = some (.int (nI 1)) ∧ jCl X1 n s K V A B M L σ md (va_up ip (jv x) (jcw c)) wd pl hn ed ∧ jfr jCS X X1) ∧ ((jin 3 x && jokc c) = false → r = some (.int (nI 0)) ∧ X1 = X)) : ∃ y : Int32, r = some (.int y) ∧ jAgr l D g 1 m_M_give [.ref 145, .int x, .int c] (.int y) X1 := by
  cases z : (jin 3 x && jokc c) with
  | true =>
    obtain ⟨rfl, hC1, f1⟩ := hq.1 z
    have hM1 := hMd.fr f1 jCS_lt
    refine ⟨_, rfl, hM1.cell, (c_M_give l D g hM1).post (fun r2 X2 h2 => ?_)⟩
    obtain ⟨rfl, m1, f2⟩ := h2.1 z
    exact ⟨rfl, .mk (hC1.fr f2 jMS_ge) m1⟩
  | false =>
    obtain ⟨rfl, e⟩ := hq.2 z
    subst e
    refine ⟨_, rfl, hMd.cell, (c_M_give l D g hMd).post (fun r2 X2 h2 => ?_)⟩
    obtain ⟨rfl, e⟩ := h2.2 z
    subst e
    exact ⟨rfl, .mk hC hMd⟩
theorem jagr_run {x : Int32} {r : Option Value} {X1 : ja_H} (hC : jCl X n s K V A B M L σ md ip wd pl hn ed) (hMd : jMdl X n s K V A B M L σ md ip wd pl hn ed) (hq : ((jin 1001 x && decide (jv x ≠ 0) && decide ((σ n).length = 0)) = true → ∃ (o : Option Nat) (val : Nat → Nat) (hn' : Nat) (wd' pl' : Nat → Nat), jNk K V A B M ip n (jv x) (some 0) (fun _ => 0, 0, wd, pl) = (o, val, hn', wd', pl') ∧ r = some (.int (nI hn')) ∧ jCl X1 n s K V A B M L σ md ip wd' pl' hn' (nI (jNe n o)) ∧ jfr jCS X X1) ∧ ((jin 1001 x && decide (jv x ≠ 0) && decide ((σ n).length = 0)) = false → r = some (.int (-1)) ∧ X1 = X)) : ∃ y : Int32, r = some (.int y) ∧ jAgr l D g 4 m_M_run [.ref 145, .int x] (.int y) X1 := by
  have hM : σ n = [] → ∀ i, i < n → 5 ≤ K i → M i < n := fun hc i hi h5 => by
    obtain ⟨_, _, _, _, _, _, _, _, _, _, _, _, c⟩ := hC.2.2.1.rv hC.2.1 hc
    exact ((c i hi).2.2.2.2.2.2.2.2.2.2.2.2.1 h5).2
  cases z : (jin 1001 x && decide (jv x ≠ 0) && decide ((σ n).length = 0)) with
  | true =>
    obtain ⟨o, val, hn', wd', pl', e1, rfl, hC1, f1⟩ := hq.1 z
    have hM1 := hMd.fr f1 jCS_lt
    refine ⟨_, rfl, hM1.cell, (c_M_run l D g hM1 hC.2.1 hM).post (fun r2 X2 h2 => ?_)⟩
    obtain ⟨o2, val2, hn2, wd2, pl2, e2, rfl, m1, f2⟩ := h2.1 z
    have e3 := e1.symm.trans e2
    simp only [Prod.mk.injEq] at e3
    obtain ⟨rfl, -, rfl, rfl, rfl⟩ := e3
    exact ⟨rfl, .mk (hC1.fr f2 jMS_ge) m1⟩
  | false =>
    obtain ⟨rfl, e⟩ := hq.2 z
    subst e
    refine ⟨_, rfl, hMd.cell, (c_M_run l D g hMd hC.2.1 hM).post (fun r2 X2 h2 => ?_)⟩
    obtain ⟨rfl, e⟩ := h2.2 z
    subst e
    exact ⟨rfl, .mk hC hMd⟩
theorem jagr_wit {x y : Int32} (hC : jCl X n s K V A B M L σ md ip wd pl hn ed) (hMd : jMdl X n s K V A B M L σ md ip wd pl hn ed) : jAgr l D g 2 m_M_witness [.ref 145, .int x, .int y] (.int (if md && jin s x then jWit (jSn (jFin n K V A B M L) (jv x)) y else -1)) X := ⟨hMd.cell, (c_M_witness l D g hMd hC.2.1).post (fun r2 X2 h2 => ⟨h2.1, .mk (hC.fr h2.2.2 jMS_ge) h2.2.1⟩)⟩
end JLAW1
