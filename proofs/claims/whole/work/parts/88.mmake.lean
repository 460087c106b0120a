-- the model: make
theorem jMany.no {V : Nat → Prop} {fi n : Nat} {nxt : Nat → Nat → Nat} {acc : Nat → Bool} {key : Nat → Nat} (hx : jRx V fi nxt (8 * n) n key) (h : jMany nxt acc n key) : ¬ ∃ m' G' x', jHas (fun w => acc (jkr nxt fi w)) m' G' x' := by
  rintro ⟨m', G', x', hc, hl⟩
  obtain ⟨rp, h1, h2⟩ := h
  have ex : ∀ c, ∃ w, c < 25 → jok w ∧ jkr nxt fi w = rp c := fun c => by
    by_cases hc : c < 25
    · obtain ⟨i, hi, he⟩ := h1 c hc
      obtain ⟨w, w1, w2⟩ := hx.2.2.2.2.2.1 i hi
      exact ⟨w, fun _ => ⟨w1, by rw [w2, he]⟩⟩
    · exact ⟨[], fun z => absurd z hc⟩
  have h24 := hc.2.1
  have := jpig 24 (fun c => jgo x' 0 (Classical.choose (ex c))) 25 (fun c hc' => ?_) (fun c c' hc1 hc2 he => ?_)
  · omega
  · have hw := (Classical.choose_spec (ex c) hc').1
    exact Nat.lt_of_lt_of_le (jgo_lt (fun s hs => hc.2.2.2.1 s hs) _ 0 hc.1 hw) h24
  · have w1 := Classical.choose_spec (ex c) hc1
    have w2 := Classical.choose_spec (ex c') hc2
    refine Classical.byContradiction fun hne => ?_
    obtain ⟨w, hw, hd⟩ := h2 c c' hc1 hc2 hne
    refine hd ?_
    have he : jgo x' 0 (Classical.choose (ex c)) = jgo x' 0 (Classical.choose (ex c')) := he
    have ok : ∀ u : List Nat, jok u → jok (u ++ w) := fun u hu d hdd => (List.mem_append.mp hdd).elim (hu d) (hw d)
    have e1 := hl _ (ok _ w1.1)
    have e2 := hl _ (ok _ w2.1)
    rw [jgo_app] at e1 e2
    have e1 : G'.testBit (jgo x' (jgo x' 0 (Classical.choose (ex c))) w) = acc (jkr nxt fi (Classical.choose (ex c) ++ w)) := e1
    have e2 : G'.testBit (jgo x' (jgo x' 0 (Classical.choose (ex c'))) w) = acc (jkr nxt fi (Classical.choose (ex c') ++ w)) := e2
    rw [jkr_app, w1.2] at e1
    rw [jkr_app, w2.2] at e2
    rw [← e1, ← e2, he]
theorem jNa_run {S : Nat} : ∀ (w : List Nat), jok w → (jkr (jNa' S) 0 w = 0 ↔ ∀ c ∈ w, S.testBit c = true) := by
  have stay : ∀ w : List Nat, jkr (jNa' S) 1 w = 1 := by
    intro w
    induction w with
    | nil => rfl
    | cons c w ih =>
      show jkr (jNa' S) (jNa' S 1 (c + 1)) w = 1
      rw [show jNa' S 1 (c + 1) = 1 from if_neg (fun z => by omega)]
      exact ih
  intro w
  induction w with
  | nil => intro _; exact ⟨fun _ c z => (by cases z), fun _ => rfl⟩
  | cons c w ih =>
    intro hw
    obtain ⟨hc, hw'⟩ := jok_cons.mp hw
    show jkr (jNa' S) (jNa' S 0 (c + 1)) w = 0 ↔ _
    cases hb : S.testBit c with
    | true =>
      rw [show jNa' S 0 (c + 1) = 0 from if_pos ⟨rfl, hb⟩]
      refine (ih hw').trans ⟨fun z d hd => ?_, fun z d hd => z d (List.mem_cons_of_mem _ hd)⟩
      rcases List.mem_cons.mp hd with rfl | hd
      · exact hb
      · exact z d hd
    | false =>
      rw [show jNa' S 0 (c + 1) = 1 from if_neg (fun z => by have : S.testBit c = true := z.2; rw [hb] at this; cases this), stay w]
      exact ⟨fun z => by omega, fun z => by have := z c (List.mem_cons_self ..); rw [hb] at this; cases this⟩
theorem jMk_all {S : Nat} (hS : S < 256) : jMk (fun w => decide (jkr (jNa' S) 0 w = 0)) = jAllL S := by
  rw [← jMk_ac (jAllL_ok hS)]
  refine jMk_congr (fun w hw => ?_)
  rw [Bool.eq_iff_iff, decide_eq_true_iff, jNa_run w hw, jAllL_ac hS hw]
theorem jMk_many {P : List Nat → Bool} {S : Nat} (hno : ¬ ∃ m' G' x', jHas P m' G' x') (hS : jLet P S) : jMk P = jAllL S := by
  have hA : jAll S (if S = 255 then 1 else 2) 1 (fun s => if s < 8 then (if S.testBit s then 0 else 1) else 1) := ⟨rfl, rfl, fun _ _ => rfl⟩
  exact jMk_of (jFit.of (Or.inr ⟨hno, S, hS, hA⟩ : jFit P _ _ _))
/-- the places that a make writes -/
def jMks : List Nat := [145, 155, 156, 157, 160, 161, 162, 163, 164, 165]
section JMM
variable (l : Launch) (D : va_G) (g : Nat × Nat) {X : ja_H}
set_option maxHeartbeats 8000000 in
set_option maxRecDepth 100000 in
theorem c_M_make {V : Nat → Prop} {fi to : Nat} {nxt : Nat → Nat → Nat} {acc : Nat → Bool} {f : Nat → Option jLan} {s st gd tb li se el er cs ct : Nat → Int32} (h : jEr X s st gd tb li se el er cs ct) (hR : jRu l D g V fi nxt acc s st gd tb) (hf0 : jTe st gd tb f) (hto : to < 43) (hto41 : to ≠ 41) :
    AMet l D g 6 0 0 m_M_make [.ref 145, .int (nI to)] X (fun r X' => r = none ∧ ∃ (s' st' gd' tb' li' se' el' er' cs' ct' : Nat → Int32), jEr X' s' st' gd' tb' li' se' el' er' cs' ct' ∧ jTe st' gd' tb' (va_up (va_up f 41 (some (jMk (fun w => acc (jkr nxt fi w))))) to (some (jMk (fun w => acc (jkr nxt fi w))))) ∧ (∀ j, j ≠ 18 → j ≠ 25 → j ≠ 27 → j ≠ 29 → j ≠ 32 → s' j = s j) ∧ jfr jMks X X') := by
  refine ja_metK (by decide) rfl (Nat.le_of_ble_eq_true rfl) fun K hB hF => ?_
  have sub : ∀ S : List Nat, (∀ k ∈ S, k ∈ jMks) → ∀ {Y Z : ja_H}, jfr S Y Z → jfr jMks Y Z := fun S hS => fun hf => hf.mono hS
  -- the writing
  have fin : ∀ {V : Nat → Prop} {fi n m e : Nat} {nxt : Nat → Nat → Nat} {acc : Nat → Bool} {key rp : Nat → Nat} {W : Nat → List Nat} {s0 s1 li se el er cs ct : Nat → Int32} (Y : ja_H), jEr Y s1 st gd tb li se el er cs ct → jRu l D g V fi nxt acc s0 st gd tb → (∀ j, 18 ≤ j → j ≤ 25 → s1 j = s0 j) → s1 32 = nI m → jRx V fi nxt (8 * n) n key → jTold nxt acc n key m e W rp se cs ct → (∀ j, j ≠ 18 → j ≠ 25 → j ≠ 27 → j ≠ 29 → j ≠ 32 → s1 j = s j) → jfr jMks X Y → ∀ L, jMk (fun w => acc (jkr nxt fi w)) = L → (∀ (Z : ja_H) (st' gd' tb' li' : Nat → Int32), jEr Z s1 st' gd' tb' li' se el er cs ct → jTe st' gd' tb' (va_up (va_up f 41 (some L)) to (some L)) → jfr jMks X Z → K 39 [.ref 145, .int (nI to)] [] Z 0 0) → K 34 [.ref 145, .int (nI to)] [] Y 0 0 := by
    intro V fi n m e nxt acc key rp W s0 s1 li se el er cs ct Y e1 e2 e3 e4 e5 e6 e7 hf L hL kk
    refine kw_aload_n hB M_make_34 rfl ?_
    refine kw_iload_n hB M_make_35 rfl ?_
    refine kw_callV hB M_make_36 s_M_209 im_M_write se_M_write e1.1 rfl rfl (As := [.int (nI to)]) (c_M_write l D g e1 e2 e3 e4 e5 e6 hf0 hto hto41) rfl (by decide) (Nat.le_of_ble_eq_true rfl) (by omega) (by omega) (fun r X1 hq hl => ?_)
    obtain ⟨rfl, st', gd', tb', li', q1, q2, q3⟩ := hq
    rw [hL] at q2
    exact kk X1 st' gd' tb' li' q1 q2 (hf.tr (sub _ (by decide) q3))
  refine kw_aload_n hB M_make_0 rfl ?_
  refine kw_callV hB M_make_1 s_M_200 im_M_reach se_M_reach h.1 rfl rfl (As := []) (c_M_reach l D g h hR) rfl (by decide) (Nat.le_of_ble_eq_true rfl) (by omega) (by omega) (fun r X1 hq hl => ?_)
  obtain ⟨rfl, n, key, s1, li1, se1, p1, p2, p3, p4, p5, p6, p7, p8⟩ := hq
  have f1 := sub _ (by decide) p8
  have s1o : ∀ j, 18 ≤ j → j ≤ 25 → s1 j = s j := fun j h1 h2 => p4 j (by omega) (by omega)
  refine kw_aload_n hB M_make_4 rfl ?_
  refine kw_callV hB M_make_5 s_M_203 im_M_tell se_M_tell p1.1 rfl rfl (As := []) (c_M_tell l D g p1 hR s1o p2 p3 p5 p6 p7) rfl (by decide) (Nat.le_of_ble_eq_true rfl) (by omega) (by omega) (fun r X1 hq hl => ?_)
  obtain ⟨s2, se2, el2, er2, cs2, ct2, q1, q2, q3, q4⟩ := hq
  have f2 := f1.tr (sub _ (by decide) q3)
  have s2o : ∀ j, 18 ≤ j → j ≤ 25 → s2 j = s j := fun j h1 h2 => (q2 j (by omega) (by omega)).trans (s1o j h1 h2)
  have s2a : ∀ j, j ≠ 27 → j ≠ 29 → j ≠ 32 → s2 j = s j := fun j h1 h2 h3 => (q2 j h2 h3).trans (p4 j h1 h2)
  rcases q4 with ⟨rfl, m, e, W, rp, hm, told⟩ | ⟨rfl, many⟩
  · refine kn_if_ne hB M_make_8 (by decide) (fun _ => ?_) (fun z => absurd z (by decide))
    refine fin _ q1 hR s2o hm p5 told (fun j _ _ h1 h2 h3 => s2a j h1 h2 h3) f2 _ rfl (fun Z st' gd' tb' li' z1 z2 zf => ?_)
    refine kw_vret hF rfl M_make_39 ⟨rfl, s2, st', gd', tb', li', se2, el2, er2, cs2, ct2, z1, z2, fun j _ _ h1 h2 h3 => s2a j h1 h2 h3, zf⟩ zf.1
  · refine kn_if_ne hB M_make_8 (by decide) (fun z => absurd rfl z) (fun _ => ?_)
    refine kw_aload_n hB M_make_11 rfl ?_
    refine kw_aload_n hB M_make_12 rfl ?_
    refine kw_callV hB M_make_13 s_M_206 im_M_occurring se_M_occurring q1.1 rfl rfl (As := []) (c_M_occurring l D g q1 hR s2o ((q2 27 (by decide) (by decide)).trans p2) p5 p6) rfl (by decide) (Nat.le_of_ble_eq_true rfl) (by omega) (by omega) (fun r X1 hq hl => ?_)
    obtain ⟨S, se3, rfl, hS, r1, r2⟩ := hq
    have f3 := f2.tr (sub _ (by decide) r2)
    have hLall := jMk_many (many.no p5) hS
    refine km_put hB M_make_16 r1.1 f_M_164 jw_M_25 (by decide) rfl rfl rfl ?_
    have r3 := r1.s_s (f' := upd s2 25 (nI (2 * S)))
    have f4 := f3.tr (sub [145] (by decide) (jset_fr _ 145 (jMo (upd s2 25 (nI (2 * S))))))
    generalize List.set _ 145 (jMo (upd s2 25 (nI (2 * S)))) = Y4 at r3 f4
    refine kw_aload_n hB M_make_19 rfl ?_
    refine kw_bipush hB M_make_20 (v := nI 7) (by decide) ?_
    refine km_put hB M_make_22 r3.1 f_M_132 jw_M_18 (by decide) rfl rfl rfl ?_
    have r4 := r3.s_s (f' := upd (upd s2 25 (nI (2 * S))) 18 (nI 7))
    have f5 := f4.tr (sub [145] (by decide) (jset_fr Y4 145 (jMo (upd (upd s2 25 (nI (2 * S))) 18 (nI 7)))))
    generalize Y4.set 145 (jMo (upd (upd s2 25 (nI (2 * S))) 18 (nI 7))) = Y5 at r4 f5
    have hA := jRu_ALL l D g (s := upd (upd s2 25 (nI (2 * S))) 18 (nI 7)) (st := st) (gd := gd) (tb := tb) (S := S) (pk_us ..) (by rw [pk_un (by decide), pk_us]) hS.1
    refine kw_aload_n hB M_make_25 rfl ?_
    refine kw_callV hB M_make_26 s_M_200 im_M_reach se_M_reach r4.1 rfl rfl (As := []) (c_M_reach l D g r4 hA) rfl (by decide) (Nat.le_of_ble_eq_true rfl) (by omega) (by omega) (fun r X1 hq hl => ?_)
    obtain ⟨rfl, n2, key2, s3, li3, se4, u1, u2, u3, u4, u5, u6, u7, u8⟩ := hq
    have f6 := f5.tr (sub _ (by decide) u8)
    have s3o : ∀ j, 18 ≤ j → j ≤ 25 → s3 j = upd (upd s2 25 (nI (2 * S))) 18 (nI 7) j := fun j h1 h2 => u4 j (by omega) (by omega)
    refine kw_aload_n hB M_make_29 rfl ?_
    refine kw_callV hB M_make_30 s_M_203 im_M_tell se_M_tell u1.1 rfl rfl (As := []) (c_M_tell l D g u1 hA s3o u2 u3 u5 u6 u7) rfl (by decide) (Nat.le_of_ble_eq_true rfl) (by omega) (by omega) (fun r X1 hq hl => ?_)
    obtain ⟨s5, se5, el5, er5, cs5, ct5, w1, w2, w3, w4⟩ := hq
    have f7 := f6.tr (sub _ (by decide) w3)
    rcases w4 with ⟨rfl, m, e, W, rp, hm, told⟩ | ⟨rfl, many2⟩
    · refine kw_pop hB M_make_33 rfl ?_
      have s5a : ∀ j, j ≠ 18 → j ≠ 25 → j ≠ 27 → j ≠ 29 → j ≠ 32 → s5 j = s j := fun j h0 h1 h2 h3 h4 => by
        rw [w2 j h3 h4, u4 j h2 h3, pk_un h0, pk_un h1]; exact s2a j h2 h3 h4
      refine fin _ w1 hA (fun j h1 h2 => (w2 j (by omega) (by omega)).trans (s3o j h1 h2)) hm u5 told s5a f7 _ ((jMk_all hS.1).trans hLall.symm) (fun Z st' gd' tb' li' z1 z2 zf => ?_)
      refine kw_vret hF rfl M_make_39 ⟨rfl, s5, st', gd', tb', li', se5, el5, er5, cs5, ct5, z1, z2, s5a, zf⟩ zf.1
    · exfalso
      obtain ⟨rp, k1, k2⟩ := many2
      have hn2 : n2 ≤ 2 := jpig 2 key2 n2 (fun i hi => u5.2.2.1 i hi) u5.2.2.2.1
      have := jpig 2 rp 25 (fun c hc => by obtain ⟨i, hi, he⟩ := k1 c hc; rw [he]; exact u5.2.2.1 i hi) (fun c c' hc hc' he => Classical.byContradiction fun hne => by
        obtain ⟨w, -, hd⟩ := k2 c c' hc hc' hne
        rw [he] at hd
        exact hd rfl)
      omega
end JMM
