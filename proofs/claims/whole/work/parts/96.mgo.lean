-- the model: go
section JRO
variable {σ : Nat → List (Nat × Nat)} {K M L : Nat → Nat} {n i hw : Nat} {rd rd' : Nat → Nat} {md rn rn' : Nat → Int32}
theorem jRo.same (h : jRo σ K i hw rd md rn) (hi : i ≤ hw) (e : σ (i + 1) = σ i) (k : K i ≠ 7) : jRo σ K (i + 1) (max hw (i + 1)) rd md rn :=
  ⟨fun a h0 p t ea kh => h.1 a h0 p t (e ▸ ea) kh, fun h0 h1 kh hx => h.2 h0 (by have : h0 ≠ i := fun z => k (z ▸ kh); omega) kh (fun x hx' => hx x (e ▸ hx'))⟩
theorem jRo.head (h : jRo σ K i hw rd md rn) (hS : jSs n K M L σ) (hin : i < n) (hi : i ≤ hw) (e : σ (i + 1) = (i, i) :: σ i) (eL : L i = (σ i).length) (hrd : ∀ j, j ≠ i → rd' j = rd j) (h7 : K i = 7 → rd' i = 0) : jRo σ K (i + 1) (max hw (i + 1)) rd' md (upd rn (L i) (nI 1)) := by
  refine ⟨fun a h0 p t ea kh => ?_, fun h0 h1 kh hx => ?_⟩
  · rw [e] at ea
    cases a with
    | nil =>
      have q := List.cons.inj ea
      have q4 : i = h0 := (Prod.mk.inj q.1).1
      rw [← q.2, ← eL, pk_us]
      subst q4
      rw [h7 kh]
    | cons x a =>
      have q : σ i = a ++ (h0, p) :: t := (List.cons.inj ea).2
      have h1 := hS.lt a i (by omega) h0 p t q
      have h2 : t.length < (σ i).length := by rw [q]; simp; omega
      rw [pk_un (by omega), hrd h0 (by omega)]
      exact h.1 a h0 p t q kh
  · rw [e] at hx
    have hne : i ≠ h0 := hx (i, i) (List.mem_cons_self ..)
    rw [hrd h0 (fun z => hne z.symm)]
    exact h.2 h0 (by omega) kh (fun x hx' => hx x (List.mem_cons_of_mem _ hx'))
theorem jRo.other {h0 : Nat} {t0 : List (Nat × Nat)} (h : jRo σ K i hw rd md rn) (hi : i ≤ hw) (e1 : σ i = (h0, h0) :: t0) (e : σ (i + 1) = (h0, i) :: t0) (k : K i ≠ 7) (k5 : K h0 = 5) : jRo σ K (i + 1) (max hw (i + 1)) rd md rn := by
  refine ⟨fun a h1 p t ea kh => ?_, fun h1 hl kh hx => ?_⟩
  · rw [e] at ea
    cases a with
    | nil =>
      have q := List.cons.inj ea
      have q4 : h0 = h1 := (Prod.mk.inj q.1).1
      subst q4; omega
    | cons x a =>
      have q : t0 = a ++ (h1, p) :: t := (List.cons.inj ea).2
      exact h.1 ((h0, h0) :: a) h1 p t (by rw [e1, q]; rfl) kh
  · refine h.2 h1 (by have : h1 ≠ i := fun z => k (z ▸ kh); omega) kh (fun x hx' => ?_)
    rw [e1] at hx'
    rw [e] at hx
    rcases List.mem_cons.mp hx' with z | z
    · rw [z]; exact hx (h0, i) (List.mem_cons_self ..)
    · exact hx x (List.mem_cons_of_mem _ z)
theorem jRo.end8 {h0 p0 : Nat} {t0 : List (Nat × Nat)} (h : jRo σ K i hw rd md rn) (hi : i ≤ hw) (e1 : σ i = (h0, p0) :: t0) (e : σ (i + 1) = t0) (k : K i ≠ 7) (k5 : K h0 = 5) : jRo σ K (i + 1) (max hw (i + 1)) rd md rn := by
  refine ⟨fun a h1 p t ea kh => ?_, fun h1 hl kh hx => ?_⟩
  · rw [e] at ea
    exact h.1 ((h0, p0) :: a) h1 p t (by rw [e1, ea]; rfl) kh
  · refine h.2 h1 (by have : h1 ≠ i := fun z => k (z ▸ kh); omega) kh (fun x hx' => ?_)
    rw [e1] at hx'
    rw [e] at hx
    rcases List.mem_cons.mp hx' with z | z
    · rw [z]; intro z2; have z2 : h0 = h1 := z2; subst z2; omega
    · exact hx x z
theorem jRo.end9 {h0 i' : Nat} {t0 : List (Nat × Nat)} (h : jRo σ K i hw rd md rn) (hS : jSs n K M L σ) (hin : i < n) (hi : i ≤ hw) (e1 : σ i = (h0, h0) :: t0) (k : K i ≠ 7) (hr : ∀ d, d ≠ t0.length → rn' d = rn d) (e : σ i' = t0 ∨ (σ i' = (h0, h0) :: t0 ∧ rn' t0.length = nI (rd h0 + 2))) : jRo σ K i' (max hw (i + 1)) (va_up rd h0 (rd h0 + 1)) (upd md h0 (nI (rd h0 + 1))) rn' := by
  have b8 := (hS.top i (by omega) _ _ _ e1).2.2.2.2.2.2.2.1
  have b1 := (hS.top i (by omega) _ _ _ e1).1
  have inner : ∀ a h1 p t, t0 = a ++ (h1, p) :: t → K h1 = 7 → rn' t.length = nI (va_up rd h0 (rd h0 + 1) h1 + 1) := fun a h1 p t q kh => by
    have l1 := hS.lt a h0 (by omega) h1 p t (b8.trans q)
    have l2 : t.length < t0.length := by rw [q]; simp; omega
    rw [jup_ne (by omega), hr _ (by omega)]
    exact h.1 ((h0, h0) :: a) h1 p t (by rw [e1, q]; rfl) kh
  refine ⟨fun a h1 p t ea kh => ?_, fun h1 hl kh hx => ?_⟩
  · rcases e with e | ⟨e, e'⟩
    · exact inner a h1 p t (e.symm.trans ea) kh
    · rw [e] at ea
      cases a with
      | nil =>
        have q := List.cons.inj ea
        have q4 : h0 = h1 := (Prod.mk.inj q.1).1
        subst q4
        rw [← q.2, jup_self]; exact e'
      | cons x a => exact inner a h1 p t (List.cons.inj ea).2 kh
  · by_cases z : h1 = h0
    · subst z; rw [pk_us, jup_self]
    · rw [pk_un z, jup_ne z]
      refine h.2 h1 (by have : h1 ≠ i := fun z => k (z ▸ kh); omega) kh (fun x hx' => ?_)
      rw [e1] at hx'
      rcases List.mem_cons.mp hx' with y | y
      · rw [y]; exact fun w => z w.symm
      · rcases e with e | ⟨e, -⟩
        · exact hx x (by rw [e]; exact y)
        · exact hx x (by rw [e]; exact List.mem_cons_of_mem _ y)
end JRO
section JMG
variable (l : Launch) (D : va_G) (g : Nat × Nat) {X : ja_H} {s : Nat → Int32} {f : Nat → Option jLan} {n : Nat} {K V A B M L : Nat → Nat} {σ : Nat → List (Nat × Nat)} {rd : Nat → Nat} {nw : Nat → jLan} {bf bg sk : Nat → Option jLan}
/-- the state of the model's analysis -/
def jMz (X : ja_H) (s : Nat → Int32) (K : Nat → Nat) (σ : Nat → List (Nat × Nat)) (hw : Nat) (t : jSt) : Prop := ∃ s' f md rn, jMe X s' f ∧ jKs s s' ∧ jFs' f t.2.2.1 t.2.2.2.1 t.2.2.2.2.1 t.2.2.2.2.2 ∧ jRo σ K t.1 hw t.2.1 md rn ∧ X[158]? = some (.inl (0, 24, .inl md)) ∧ X[159]? = some (.inl (0, 3, .inl rn))
set_option maxHeartbeats 16000000 in
set_option maxRecDepth 100000 in
theorem c_M_go {i hw : Nat} (hm : jMz X s K σ hw (i, rd, nw, bf, bg, sk)) (hq : jMq X n K V A B M L) (hS : jSs n K M L σ) (hc : σ n = []) (hln : ∀ i, i < n → jLn (K i) (V i) (A i) (B i)) (hi : i < n) (hI : jDI n K A σ (i, rd, nw, bf, bg, sk) hw) (hA : jAlv (i, rd, nw, bf, bg, sk)) (hrd : ∀ h, rd h ≤ 9000000) :
    AMet l D g 10 0 0 m_M_go [.ref 145, .int (nI i)] X (fun r X' => r = some (.int (nI (jGo K V A B M L i rd nw bf bg sk).1)) ∧ jMz X' s K σ (max hw (i + 1)) (jGo K V A B M L i rd nw bf bg sk) ∧ jfr jGs X X') := by
  have hq0 := hq
  obtain ⟨wh, on, tw, th, dp, bgn, ol, el, bk, hp, hn24, hl⟩ := hq
  obtain ⟨s0, f, md, rn, h, ks0, hF0, hR, hmd, hrn⟩ := hm
  have hF0 : jFs' f nw bf bg sk := hF0
  have hR : jRo σ K i hw rd md rn := hR
  obtain ⟨l1, l2, l3, l4, ⟨d, hd3, ld⟩, l5, l6, l8, l9, l10⟩ := hl i hi
  obtain ⟨-, i2, -, i3, i4, i5, i6, i7, i8⟩ := hI
  have i2 : i ≤ hw := i2
  have i3 : jDs bf bg (σ i) := i3
  have i4 : ∀ v, v < 5 → jOk (nw v) := i4
  have i5 : jOks bf := i5
  have i6 : jOks bg := i6
  obtain ⟨an, ab, ag⟩ := hA
  have an : jAon nw := an
  have ab : ∀ d, jAon (jBf bf d) := ab
  obtain ⟨k10, hV, -, -, -, -, hS6, -⟩ := hln i hi
  have nm : ∀ k, k = 158 ∨ k = 159 → k ∉ jMks := fun k hk z => by rw [jMks_mem] at z; omega
  refine ja_metK (by decide) rfl (Nat.le_of_ble_eq_true rfl) fun K9 hB hF => ?_
  -- behind all
  have fin : ∀ (Z : ja_H) (u w x : Value), (jGo K V A B M L i rd nw bf bg sk).1 = i + 1 → jMz Z s K σ (max hw (i + 1)) (jGo K V A B M L i rd nw bf bg sk) → jfr jGs X Z → K9 201 [.ref 145, .int (nI i), u, w, x] [] Z 0 0 := by
    intro Z u w x e1 e2 e3
    refine kw_iload_n hB M_go_201 rfl ?_
    refine kw_iconst hB M_go_202 (v := nI 1) (by decide) ?_
    refine kn_iadd hB M_go_203 ?_
    refine kw_iret hF rfl M_go_204 ⟨by rw [e1], e2, e3⟩ e3.1
  refine kw_iconst hB M_go_0 (v := nI 5) (by decide) ?_
  refine kw_bipush hB M_go_1 (v := nI 10) (by decide) ?_
  refine kw_aload_n hB M_go_3 rfl ?_
  refine kw_getf hB M_go_4 f_M_22 h.c rfl ?_
  refine kw_iload_n hB M_go_7 rfl ?_
  refine kn_iald hB M_go_8 hp.2.2.2.2.1 rfl (by omega) (by decide) ?_
  rw [ld]
  refine kn_imul hB M_go_9 ?_
  refine kn_iadd hB M_go_10 ?_
  refine kw_istore_n hB M_go_11 rfl (by decide) rfl ?_
  refine kw_aload_n hB M_go_12 rfl ?_
  refine kw_getf hB M_go_13 f_M_7 h.c rfl ?_
  refine kw_iload_n hB M_go_16 rfl ?_
  refine kn_iald hB M_go_17 hp.1 rfl (by omega) (by decide) ?_
  rw [l1]
  refine kw_iconst hB M_go_18 (v := nI 4) (by decide) ?_
  refine kn_icmp_ne hB M_go_19 (by split <;> omega) (by decide) (fun z => ?_) (fun z => ?_)
  rotate_left
  · have k4 : K i = 4 := by split at z <;> omega
    have a6 := hS6 k4
    refine kw_aload_n hB M_go_22 rfl ?_
    refine kw_aload_n hB M_go_23 rfl ?_
    refine kw_getf hB M_go_24 f_M_13 h.c rfl ?_
    refine kw_iload_n hB M_go_27 rfl ?_
    refine kn_iald hB M_go_28 hp.2.1 rfl (by omega) (by decide) ?_
    rw [l2]
    refine kw_bipush hB M_go_29 (v := nI 35) (by decide) ?_
    refine kw_aload_n hB M_go_31 rfl ?_
    refine kw_getf hB M_go_32 f_M_16 h.c rfl ?_
    refine kw_iload_n hB M_go_35 rfl ?_
    refine kn_iald hB M_go_36 hp.2.2.1 rfl (by omega) (by decide) ?_
    rw [l3]
    refine kn_iadd hB M_go_37 ?_
    refine kw_callV hB M_go_38 s_M_196 im_M_copy se_M_copy h.c rfl rfl (As := [.int (nI (V i)), .int (nI (35 + A i))]) (w_M_copy l D g h (by omega) (by omega) (hF0.1 _ hV)) rfl (by decide) (Nat.le_of_ble_eq_true rfl) (by omega) (by omega) (fun r X1 hq hl => ?_)
    obtain ⟨rfl, h1, g1⟩ := hq
    have e := jGo_4 (V := V) (A := A) (B := B) (M := M) (L := L) (rd := rd) (nw := nw) (bf := bf) (bg := bg) (sk := sk) k4
    refine kw_goto hB M_go_41 ?_
    refine fin X1 _ _ _ (by rw [e]) ?_ (jmk_gs g1)
    rw [e]
    refine ⟨s0, _, md, rn, h1, ks0, ⟨fun v hv => ?_, fun d v L' hd hv hb => ?_, fun d v L' hd hv hb => ?_, fun k L' hk hb => ?_⟩, ?_, g1.at (nm 158 (Or.inl rfl)) hmd, g1.at (nm 159 (Or.inr rfl)) hrn⟩
    · rw [jup_ne (by omega)]; exact hF0.1 v hv
    · rw [jup_ne (by omega)]; exact hF0.2.1 d v L' hd hv hb
    · rw [jup_ne (by omega)]; exact hF0.2.2.1 d v L' hd hv hb
    · have hb : va_up sk (A i) (some (nw (V i))) k = some L' := hb
      by_cases z : k = A i
      · subst z; rw [jup_self] at hb ⊢; exact hb
      · rw [jup_ne z] at hb; rw [jup_ne (by omega)]; exact hF0.2.2.2 k L' hk hb
    · refine hR.same i2 ?_ (by omega)
      rcases hS.2 i hi with ⟨k, e⟩ | ⟨k, e, e2, e3⟩ | ⟨k, h0, t0, e1, e2, e3, e4⟩ | ⟨k, h0, p0, t0, e1, e2, e3, e4, e5, e6⟩ | ⟨k, h0, t0, e1, e2, e3, e4, e5, e6⟩
      · exact e
      · omega
      · omega
      · omega
      · omega
  have n4 : K i ≠ 4 := fun w => z (by rw [w]; rfl)
  clear z
  -- a head
  have head : ∀ (rd' : Nat → Nat), (K i = 5 ∨ K i = 7) → jGo K V A B M L i rd nw bf bg sk = (i + 1, rd', jKp nw (V i) (A i) (B i) true, jPut bf (L i * 5) 5 nw, bg, sk) → (∀ j, j ≠ i → rd' j = rd j) → (K i = 7 → rd' i = 0) → K9 65 [.ref 145, .int (nI i), .int (nI (5 + 10 * d)), .retAddr 0, .retAddr 0] [] X 0 0 := by
    intro rd' hk e hr h7
    have hsl : σ (i + 1) = (i, i) :: σ i ∧ L i = (σ i).length ∧ (σ i).length < 3 := by
      rcases hS.2 i hi with ⟨k, e⟩ | ⟨k, e, e2, e3⟩ | ⟨k, h0, t0, e1, e2, e3, e4⟩ | ⟨k, h0, p0, t0, e1, e2, e3, e4, e5, e6⟩ | ⟨k, h0, t0, e1, e2, e3, e4, e5, e6⟩
      · omega
      · exact ⟨e, e2, e3⟩
      · omega
      · omega
      · omega
    obtain ⟨q1, q2, q3⟩ := hsl
    have hL : L i < 3 := by omega
    have hdL : d = L i := by
      have := ld.symm.trans (l5 hk)
      exact (nI_eq (by omega) (by omega)).mp this
    subst hdL
    refine kw_aload_n hB M_go_65 rfl ?_
    refine kw_iconst hB M_go_66 (v := nI 0) (by decide) ?_
    refine kw_iload_n hB M_go_67 rfl ?_
    refine kw_callV hB M_go_68 s_M_228 im_M_copySet se_M_copySet h.c rfl rfl (As := [.int (nI 0), .int (nI (5 + 10 * L i))]) (w_M_copySet l D g (a := 0) (b := 5 + 10 * L i) (N := nw) h (by decide) (by omega) (Or.inl (by omega)) (fun v hv => by rw [Nat.zero_add]; exact hF0.1 v hv)) rfl (by decide) (Nat.le_of_ble_eq_true rfl) (by omega) (by omega) (fun r X1 hq hl => ?_)
    obtain ⟨rfl, f1, h1, p1, p2, g1⟩ := hq
    have F1 := hF0.b hL p1 p2
    have m1 := g1.at (nm 158 (Or.inl rfl)) hmd
    have r1 := g1.at (nm 159 (Or.inr rfl)) hrn
    have pp1 := hp.fr g1 jmk_lo
    refine kw_aload_n hB M_go_71 rfl ?_
    refine kw_getf hB M_go_72 f_M_50 h1.c rfl ?_
    refine kw_aload_n hB M_go_75 rfl ?_
    refine kw_getf hB M_go_76 f_M_22 h1.c rfl ?_
    refine kw_iload_n hB M_go_79 rfl ?_
    refine kn_iald hB M_go_80 pp1.2.2.2.2.1 rfl (by omega) (by decide) ?_
    rw [ld]
    refine kw_iconst hB M_go_81 (v := nI 1) (by decide) ?_
    refine kn_iast hB M_go_82 r1 rfl hL (by decide) ?_
    have f4 := jset_fr X1 159 (.inl (0, 3, .inl (upd rn (L i) (nI 1))))
    have l159 : 159 < X1.length := (List.getElem?_eq_some_iff.mp r1).1
    have n159 : ∀ k, k ≠ 159 → k ∉ [159] := fun k hk z => hk (List.mem_singleton.mp z)
    have e4 := h1.fr f4 (fun k hk => by rw [List.mem_singleton.mp hk]; decide)
    have m4 := f4.at (n159 158 (by decide)) m1
    have r4 : (X1.set 159 (.inl (0, 3, .inl (upd rn (L i) (nI 1)))))[159]? = some (.inl (0, 3, .inl (upd rn (L i) (nI 1)))) := List.getElem?_set_self l159
    have q5 := (hq0.fr g1 jmk_lo).fr f4 (fun k hk => by have := List.mem_singleton.mp hk; omega)
    have g4 : jfr jGs X _ := (jmk_gs g1).tr (f4.mono (fun k hk => by rw [List.mem_singleton.mp hk]; decide))
    generalize X1.set 159 (.inl (0, 3, .inl (upd rn (L i) (nI 1)))) = Y4 at f4 e4 m4 r4 q5 g4
    have hl4 := g4.1
    refine kw_aload_n hB M_go_83 rfl ?_
    refine kw_iload_n hB M_go_84 rfl ?_
    refine kw_iconst hB M_go_85 (v := nI 0) (by decide) ?_
    refine kw_callV hB M_go_86 s_M_231 im_M_keep se_M_keep e4.c rfl rfl (As := [.int (nI i), .int (nI false.toNat)]) (c_M_keep l D g (b := false) e4 q5 hi (hln i hi) hk F1.1 an) rfl (by decide) (Nat.le_of_ble_eq_true rfl) (by omega) (by omega) (fun r X1 hq hl => ?_)
    obtain ⟨rfl, s5, f5, h5, q6, q7, ks5, g5⟩ := hq
    have F5 := F1.n q6 q7
    have g6 := g4.tr (jmk_gs g5)
    refine kw_goto hB M_go_89 ?_
    refine fin X1 _ _ _ (by rw [e]) ?_ g6
    rw [e]
    exact ⟨s5, f5, md, _, h5, ks0.tr ks5, F5, hR.head hS hi i2 q1 q2 hr h7, g5.at (nm 158 (Or.inl rfl)) m4, g5.at (nm 159 (Or.inr rfl)) r4⟩
  refine kw_aload_n hB M_go_44 rfl ?_
  refine kw_getf hB M_go_45 f_M_7 h.c rfl ?_
  refine kw_iload_n hB M_go_48 rfl ?_
  refine kn_iald hB M_go_49 hp.1 rfl (by omega) (by decide) ?_
  rw [l1]
  refine kw_iconst hB M_go_50 (v := nI 5) (by decide) ?_
  refine kn_icmp_eq hB M_go_51 (by split <;> omega) (by decide) (fun z => ?_) (fun z => ?_)
  · have k5 : K i = 5 := by split at z <;> omega
    exact head rd (Or.inl k5) (jGo_5 k5) (fun _ _ => rfl) (fun w => by omega)
  have n5 : K i ≠ 5 := fun w => z (by rw [w]; rfl)
  clear z
  refine kw_aload_n hB M_go_54 rfl ?_
  refine kw_getf hB M_go_55 f_M_7 h.c rfl ?_
  refine kw_iload_n hB M_go_58 rfl ?_
  refine kn_iald hB M_go_59 hp.1 rfl (by omega) (by decide) ?_
  rw [l1]
  refine kw_bipush hB M_go_60 (v := nI 7) (by decide) ?_
  refine kn_icmp_ne hB M_go_62 (by split <;> omega) (by decide) (fun z => ?_) (fun z => ?_)
  rotate_left
  · have k7 : K i = 7 := by split at z <;> omega
    exact head _ (Or.inr k7) (jGo_7 k7) (fun j hj => jup_ne hj) (fun _ => jup_self ..)
  have n7 : K i ≠ 7 := fun w => z (by rw [w]; rfl)
  clear z
  refine kw_aload_n hB M_go_92 rfl ?_
  refine kw_getf hB M_go_93 f_M_7 h.c rfl ?_
  refine kw_iload_n hB M_go_96 rfl ?_
  refine kn_iald hB M_go_97 hp.1 rfl (by omega) (by decide) ?_
  rw [l1]
  refine kw_bipush hB M_go_98 (v := nI 6) (by decide) ?_
  refine kn_icmp_ne hB M_go_100 (by split <;> omega) (by decide) (fun z => ?_) (fun z => ?_)
  rotate_left
  · have k6 : K i = 6 := by split at z <;> omega
    have hsl : ∃ h0 t0, σ i = (h0, h0) :: t0 ∧ K h0 = 5 ∧ M h0 = i ∧ σ (i + 1) = (h0, i) :: t0 := by
      rcases hS.2 i hi with ⟨k, e⟩ | ⟨k, e, e2, e3⟩ | ⟨k, h0, t0, e1, e2, e3, e4⟩ | ⟨k, h0, p0, t0, e1, e2, e3, e4, e5, e6⟩ | ⟨k, h0, t0, e1, e2, e3, e4, e5, e6⟩
      · omega
      · omega
      · exact ⟨h0, t0, e1, e2, e3, e4⟩
      · omega
      · omega
    obtain ⟨h0, t0, e1, e2, e3, e4⟩ := hsl
    have hE := hS.end1 hc (by omega) e1
    obtain ⟨b1, b2, b3, b4, b5, b6, b7, b8, b9, b10⟩ := hS.top i (by omega) _ _ _ e1
    have hMM : M (M i) = h0 := by
      have : jE K M h0 = M i := by unfold jE; rw [e3, if_pos ⟨e2, k6⟩]
      rw [← this]; exact hE.2.2.1
    have hL : L h0 < 3 := by omega
    have sb : ∀ v, v < 5 → (bf (L h0 * 5 + v)).isSome = true := by
      rw [e1] at i3
      rw [b6]
      exact i3.1
    have e := jGo_6 (V := V) (A := A) (B := B) (M := M) (L := L) (rd := rd) (nw := nw) (bf := bf) (bg := bg) (sk := sk) k6 hMM
    have eb := l6 k6
    rw [hMM] at eb
    obtain ⟨-, -, -, -, -, d6, -, -, -, -⟩ := hl h0 b3
    have ed := d6 (Or.inl e2)
    refine kw_aload_n hB M_go_103 rfl ?_
    refine kw_getf hB M_go_104 f_M_25 h.c rfl ?_
    refine kw_iload_n hB M_go_107 rfl ?_
    refine kn_iald hB M_go_108 hp.2.2.2.2.2.1 rfl (by omega) (by decide) ?_
    rw [eb]
    refine kw_istore_n hB M_go_109 rfl (by decide) rfl ?_
    refine kw_iconst hB M_go_110 (v := nI 5) (by decide) ?_
    refine kw_bipush hB M_go_111 (v := nI 10) (by decide) ?_
    refine kw_aload_n hB M_go_113 rfl ?_
    refine kw_getf hB M_go_114 f_M_22 h.c rfl ?_
    refine kw_iload_n hB M_go_117 rfl ?_
    refine kn_iald hB M_go_118 hp.2.2.2.2.1 rfl (by omega) (by decide) ?_
    rw [ed]
    refine kn_imul hB M_go_119 ?_
    refine kn_iadd hB M_go_120 ?_
    refine kw_istore hB M_go_121 (by decide) rfl ?_
    refine kw_aload_n hB M_go_123 rfl ?_
    refine kw_iconst hB M_go_124 (v := nI 0) (by decide) ?_
    refine kw_iload hB M_go_125 rfl ?_
    refine kw_iconst hB M_go_127 (v := nI 5) (by decide) ?_
    refine kn_iadd hB M_go_128 ?_
    refine kw_callV hB M_go_129 s_M_228 im_M_copySet se_M_copySet h.c rfl rfl (As := [.int (nI 0), .int (nI (5 + 10 * L h0 + 5))]) (w_M_copySet l D g (a := 0) (b := 5 + 10 * L h0 + 5) (N := nw) h (by decide) (by omega) (Or.inl (by omega)) (fun v hv => by rw [Nat.zero_add]; exact hF0.1 v hv)) rfl (by decide) (Nat.le_of_ble_eq_true rfl) (by omega) (by omega) (fun r X1 hq hl => ?_)
    obtain ⟨rfl, f1, h1, q1, q2, g1⟩ := hq
    have hl1 := g1.1
    have F1 : jFs' f1 nw bf (jPut bg (L h0 * 5) 5 nw) sk := hF0.g hL (fun v hv => by rw [show 10 + 10 * L h0 + v = 5 + 10 * L h0 + 5 + v by omega]; exact q1 v hv) (fun c hc => q2 c (by omega))
    refine kw_aload_n hB M_go_132 rfl ?_
    refine kw_iload hB M_go_133 rfl ?_
    refine kw_iconst hB M_go_135 (v := nI 0) (by decide) ?_
    refine kw_callV hB M_go_136 s_M_228 im_M_copySet se_M_copySet h1.c rfl rfl (As := [.int (nI (5 + 10 * L h0)), .int (nI 0)]) (w_M_copySet l D g (a := 5 + 10 * L h0) (b := 0) (N := jBf bf (L h0)) h1 (by omega) (by decide) (Or.inr (by omega)) (fun v hv => F1.2.1 (L h0) v _ hL hv (jis_some (sb v hv)))) rfl (by decide) (Nat.le_of_ble_eq_true rfl) (by omega) (by omega) (fun r X1 hq hl => ?_)
    obtain ⟨rfl, f2, h2, q3, q4, g2⟩ := hq
    have g12 := g1.tr g2
    have hl2 := g12.1
    have F2 : jFs' f2 (jBf bf (L h0)) bf (jPut bg (L h0 * 5) 5 nw) sk := F1.n (fun v hv => by have := q3 v hv; rw [Nat.zero_add] at this; exact this) (fun c c1 _ _ => q4 c (by omega))
    refine kw_aload_n hB M_go_139 rfl ?_
    refine kw_iload_n hB M_go_140 rfl ?_
    refine kw_iconst hB M_go_141 (v := nI 1) (by decide) ?_
    refine kw_callV hB M_go_142 s_M_231 im_M_keep se_M_keep h2.c rfl rfl (As := [.int (nI h0), .int (nI true.toNat)]) (c_M_keep l D g (b := true) h2 (hq0.fr g12 jmk_lo) b3 (hln h0 b3) (Or.inl e2) F2.1 (ab _)) rfl (by decide) (Nat.le_of_ble_eq_true rfl) (by omega) (by omega) (fun r X1 hq hl => ?_)
    obtain ⟨rfl, s3, f3, h3, q5, q6, ks3, g3⟩ := hq
    have F3 := F2.n q5 q6
    have g13 := g12.tr g3
    refine kw_goto hB M_go_145 ?_
    refine fin X1 _ _ _ (by rw [e]) ?_ (jmk_gs g13)
    rw [e]
    exact ⟨s3, f3, md, rn, h3, ks0.tr ks3, F3, hR.other i2 e1 e4 n7 e2, g13.at (nm 158 (Or.inl rfl)) hmd, g13.at (nm 159 (Or.inr rfl)) hrn⟩
  have n6 : K i ≠ 6 := fun w => z (by rw [w]; rfl)
  clear z
  refine kw_aload_n hB M_go_148 rfl ?_
  refine kw_getf hB M_go_149 f_M_7 h.c rfl ?_
  refine kw_iload_n hB M_go_152 rfl ?_
  refine kn_iald hB M_go_153 hp.1 rfl (by omega) (by decide) ?_
  rw [l1]
  refine kw_bipush hB M_go_154 (v := nI 8) (by decide) ?_
  refine kn_icmp_ne hB M_go_156 (by split <;> omega) (by decide) (fun z => ?_) (fun z => ?_)
  · have k3 : K i < 4 := by
      split at z
      · exact absurd rfl z
      · omega
    have e := jGo_0 (V := V) (A := A) (B := B) (M := M) (L := L) (rd := rd) (nw := nw) (bf := bf) (bg := bg) (sk := sk) k3
    have hRs : jRo σ K (i + 1) (max hw (i + 1)) rd md rn := by
      refine hR.same i2 ?_ (by omega)
      rcases hS.2 i hi with ⟨k, e⟩ | ⟨k, e, e2, e3⟩ | ⟨k, h0, t0, e1, e2, e3, e4⟩ | ⟨k, h0, p0, t0, e1, e2, e3, e4, e5, e6⟩ | ⟨k, h0, t0, e1, e2, e3, e4, e5, e6⟩
      · exact e
      · omega
      · omega
      · omega
      · omega
    refine kw_aload_n hB M_go_188 rfl ?_
    refine kw_iconst hB M_go_189 (v := nI 0) (by decide) ?_
    refine kw_callV hB M_go_190 s_M_216 im_M_empty se_M_empty h.c rfl rfl (As := [.int (nI 0)]) (w_M_empty l D g h (by decide) (hF0.1 0 (by decide))) rfl (by decide) (Nat.le_of_ble_eq_true rfl) (by omega) (by omega) (fun r X1 hq hl => ?_)
    obtain ⟨rfl, hxeq⟩ := hq
    obtain rfl := hxeq.symm
    refine kn_if_ne hB M_go_193 (by cases decide (nw 0 = jEmp) <;> decide) (fun z => ?_) (fun z => ?_)
    · have he : nw 0 = jEmp := of_decide_eq_true (jb_t z)
      refine fin X _ _ _ (by rw [e]) ?_ (jfr.rf _ _)
      rw [e]
      refine ⟨s0, f, md, rn, h, ks0, ?_, hRs, hmd, hrn⟩
      show jFs' f (jChg nw (K i) (V i) (A i) (B i)) bf bg sk
      unfold jChg
      rw [if_pos he]
      exact hF0
    · have he : ¬ nw 0 = jEmp := of_decide_eq_false (jb_f z)
      refine kw_aload_n hB M_go_196 rfl ?_
      refine kw_iload_n hB M_go_197 rfl ?_
      refine kw_callV hB M_go_198 s_M_247 im_M_plain se_M_plain h.c rfl rfl (As := [.int (nI i)]) (c_M_plain l D g h hq0 hi (hln i hi) k3 hF0.1) rfl (by decide) (Nat.le_of_ble_eq_true rfl) (by omega) (by omega) (fun r X1 hq hl => ?_)
      obtain ⟨rfl, s1, f1, h1, q1, q2, ks1, g1⟩ := hq
      refine fin X1 _ _ _ (by rw [e]) ?_ (jmk_gs g1)
      rw [e]
      refine ⟨s1, f1, md, rn, h1, ks0.tr ks1, ?_, hRs, g1.at (nm 158 (Or.inl rfl)) hmd, g1.at (nm 159 (Or.inr rfl)) hrn⟩
      show jFs' f1 (jChg nw (K i) (V i) (A i) (B i)) bf bg sk
      unfold jChg
      rw [if_neg he]
      exact hF0.n q1 q2
  · have k8 : 8 ≤ K i := by split at z <;> omega
    obtain ⟨eb, -⟩ := l8 k8
    rcases hS.2 i hi with ⟨k, e⟩ | ⟨k, e, e2, e3⟩ | ⟨k, h0, t0, e1, e2, e3, e4⟩ | ⟨k, h0, p0, t0, e1, e2, e3, e4, e5, e6⟩ | ⟨k, h0, t0, e1, e2, e3, e4, e5, e6⟩
    · omega
    · omega
    · omega
    · obtain ⟨b1, b2, b3, b4, b5, b6, b7, b8, b9, b10⟩ := hS.top i (by omega) _ _ _ e1
      rw [e4] at eb
      have w0 := (hl h0 b3).1
      rw [if_neg (by omega), e2] at w0
      have hL : L h0 < 3 := by omega
      rw [e1] at i3
      have sb : ∀ v, v < 5 → (bf (L h0 * 5 + v)).isSome = true := by rw [b6]; exact i3.1
      have sg : M h0 ≠ i → ∀ v, v < 5 → (bg (L h0 * 5 + v)).isSome = true := fun hne => by
        rw [b6]; exact i3.2.1 (fun z => hne (z ▸ e3))
      have hMl : M h0 < 2 ^ 31 := by
        rcases b10 with z | z
        · rw [← z, e3]; omega
        · rw [z.2.2.1]; omega
      refine kw_aload_n hB M_go_159 rfl ?_
      refine kw_getf hB M_go_160 f_M_7 h.c rfl ?_
      refine kw_aload_n hB M_go_163 rfl ?_
      refine kw_getf hB M_go_164 f_M_25 h.c rfl ?_
      refine kw_iload_n hB M_go_167 rfl ?_
      refine kn_iald hB M_go_168 hp.2.2.2.2.2.1 rfl (by omega) (by decide) ?_
      rw [eb]
      refine kn_iald hB M_go_169 hp.1 rfl (by omega) (by decide) ?_
      rw [w0]
      refine kw_iconst hB M_go_170 (v := nI 5) (by decide) ?_
      refine kn_icmp_ne hB M_go_171 (by decide) (by decide) (fun z => absurd rfl z) (fun _ => ?_)
      refine kw_aload_n hB M_go_174 rfl ?_
      refine kw_iload_n hB M_go_175 rfl ?_
      refine kw_callV hB M_go_176 s_M_241 im_M_endOfWhen se_M_endOfWhen h.c rfl rfl (As := [.int (nI i)]) (c_M_endOfWhen l D g h hq0 hi k e4 hMl b3 e2 hL (hln h0 b3) hF0 ab sb sg) rfl (by decide) (Nat.le_of_ble_eq_true rfl) (by omega) (by omega) (fun r X1 hq hl => ?_)
      obtain ⟨rfl, s1, f1, h1, q1, ks1, g1⟩ := hq
      refine kw_goto hB M_go_179 ?_
      have hRs := hR.end8 i2 e1 e6 n7 e2
      by_cases hm : M h0 = i
      · rw [if_pos hm] at q1
        have e := jGo_8a (V := V) (A := A) (B := B) (M := M) (L := L) (rd := rd) (nw := nw) (bf := bf) (bg := bg) (sk := sk) k e4 hm
        refine kw_iret hF rfl M_go_187 ⟨by rw [e], ?_, jmk_gs g1⟩ g1.1
        rw [e]
        exact ⟨s1, f1, md, rn, h1, ks0.tr ks1, q1, hRs, g1.at (nm 158 (Or.inl rfl)) hmd, g1.at (nm 159 (Or.inr rfl)) hrn⟩
      · rw [if_neg hm] at q1
        have e := jGo_8b (V := V) (A := A) (B := B) (M := M) (L := L) (rd := rd) (nw := nw) (bf := bf) (bg := bg) (sk := sk) k e4 hm
        rw [e5, ← b6] at e
        refine kw_iret hF rfl M_go_187 ⟨by rw [e], ?_, jmk_gs g1⟩ g1.1
        rw [e]
        exact ⟨s1, f1, md, rn, h1, ks0.tr ks1, q1, hRs, g1.at (nm 158 (Or.inl rfl)) hmd, g1.at (nm 159 (Or.inr rfl)) hrn⟩
    · obtain ⟨b1, b2, b3, b4, b5, b6, b7, b8, b9, b10⟩ := hS.top i (by omega) _ _ _ e1
      rw [e4] at eb
      have w0 := (hl h0 b3).1
      rw [if_neg (by omega), e2] at w0
      have hL : L h0 < 3 := by omega
      rw [e1] at i3
      have sb : ∀ v, v < 5 → (bf (L h0 * 5 + v)).isSome = true := by rw [b6]; exact i3.1
      have hRn := hR.1 [] h0 h0 t0 e1 e2
      rw [← b6] at hRn
      have hr9 := hrd h0
      refine kw_aload_n hB M_go_159 rfl ?_
      refine kw_getf hB M_go_160 f_M_7 h.c rfl ?_
      refine kw_aload_n hB M_go_163 rfl ?_
      refine kw_getf hB M_go_164 f_M_25 h.c rfl ?_
      refine kw_iload_n hB M_go_167 rfl ?_
      refine kn_iald hB M_go_168 hp.2.2.2.2.2.1 rfl (by omega) (by decide) ?_
      rw [eb]
      refine kn_iald hB M_go_169 hp.1 rfl (by omega) (by decide) ?_
      rw [w0]
      refine kw_iconst hB M_go_170 (v := nI 5) (by decide) ?_
      refine kn_icmp_ne hB M_go_171 (by decide) (by decide) (fun _ => ?_) (fun z => absurd z (by decide))
      refine kw_aload_n hB M_go_182 rfl ?_
      refine kw_iload_n hB M_go_183 rfl ?_
      refine kw_callV hB M_go_184 s_M_244 im_M_endOfLoop se_M_endOfLoop h.c rfl rfl (As := [.int (nI i)]) (c_M_endOfLoop l D g h hq0 hi k e4 b3 e2 hL (hln h0 b3) hF0 an (ab _) i4 (fun v _ => i5.bf _ v) sb hmd hrn hRn (by omega)) rfl (by decide) (Nat.le_of_ble_eq_true rfl) (by omega) (by omega) (fun r X1 hq hl => ?_)
      obtain ⟨rfl, s1, f1, rn1, h1, q1, ks1, m1, r1, q2, q3, g1⟩ := hq
      have e := jGo_9 (V := V) (A := A) (B := B) (M := M) (L := L) (rd := rd) (nw := nw) (bf := bf) (bg := bg) (sk := sk) k e4
      refine kw_iret hF rfl M_go_187 ⟨by rw [e], ?_, g1⟩ g1.1
      rw [e]
      refine ⟨s1, f1, _, rn1, h1, ks0.tr ks1, q1, ?_, m1, r1⟩
      refine hR.end9 hS hi i2 e1 n7 (fun d hd => q2 d (by omega)) ?_
      show σ (if jDn nw (jBf bf (L h0)) 5 then i + 1 else h0 + 1) = t0 ∨ _
      cases hd : jDn nw (jBf bf (L h0)) 5 with
      | true => exact Or.inl e6
      | false => exact Or.inr ⟨b9, by rw [← b6]; exact q3 hd⟩
end JMG
