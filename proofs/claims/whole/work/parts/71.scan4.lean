-- TaintScanner: the constructor
section JSUB
variable {X Y : ja_H}
theorem jsub_lx (h : ∀ k c, 2 ≤ k → X[k]? = some c → Y[k]? = some c) : ∀ q, 2 ≤ q → jLx X q → jLx Y q := fun q hq ⟨n, gd, f, e1, e2⟩ => ⟨n, gd, f, h _ _ hq e1, h _ _ (by omega) e2⟩
theorem jsub_A0 (h : ∀ k c, 2 ≤ k → X[k]? = some c → Y[k]? = some c) {md un : Int32} {rd : Nat → Int32} (hA : jA0 X md un rd) : jA0 Y md un rd := by
  have lx := jsub_lx h
  obtain ⟨a1, ⟨s1, s2, ⟨ct, nx, gd, ky, so, en, kd, fk, lk, ⟨b0, b1, b2, b3, b4, b5, b6, b7, b8⟩, bz⟩, ⟨ch, s4⟩, s5, s6, s7, s8, s9, s10, s11, ⟨i1, mf, sf, ⟨i2, i3, i4⟩, i5⟩⟩, ⟨fa, f1, f2⟩, ⟨fb, g1, g2⟩, ⟨fc, k1, k2⟩, a6, a7, a8, a9⟩ := hA
  exact ⟨h _ _ (by decide) a1, ⟨lx _ (by decide) s1, lx _ (by decide) s2, ⟨ct, nx, gd, ky, so, en, kd, fk, lk, ⟨h _ _ (by decide) b0, h _ _ (by decide) b1, h _ _ (by decide) b2, h _ _ (by decide) b3, h _ _ (by decide) b4, h _ _ (by decide) b5, h _ _ (by decide) b6, h _ _ (by decide) b7, h _ _ (by decide) b8⟩, bz⟩, ⟨ch, h _ _ (by decide) s4⟩, lx _ (by decide) s5, lx _ (by decide) s6, h _ _ (by decide) s7, lx _ (by decide) s8, lx _ (by decide) s9, h _ _ (by decide) s10, lx _ (by decide) s11, ⟨lx _ (by decide) i1, mf, sf, ⟨h _ _ (by decide) i2, h _ _ (by decide) i3, h _ _ (by decide) i4⟩, i5⟩⟩, ⟨fa, h _ _ (by decide) f1, f2⟩, ⟨fb, h _ _ (by decide) g1, g2⟩, ⟨fc, h _ _ (by decide) k1, k2⟩, fun v hv => lx _ (by omega) (a6 v hv), fun v hv => lx _ (by omega) (a7 v hv), fun v hv => lx _ (by omega) (a8 v hv), h _ _ (by decide) a9⟩
theorem jsub_Sk (h : ∀ k c, 2 ≤ k → X[k]? = some c → Y[k]? = some c) (hk : jSk X (fun _ => none)) : jSk Y (fun _ => none) := by
  obtain ⟨⟨f, f1, f2⟩, a⟩ := hk
  exact ⟨⟨f, h _ _ (by decide) f1, f2⟩, fun i hi => ⟨jsub_lx h _ (by omega) (a i hi).1, fun L' e => (by cases e)⟩⟩
theorem jsub_Lv (h : ∀ k c, 2 ≤ k → X[k]? = some c → Y[k]? = some c) {q n gd : Nat} {x : Nat → Nat} (hq : 2 ≤ q) (hl : jLv X q n gd x) : jLv Y q n gd x := by
  obtain ⟨f, ⟨e1, e2⟩, r⟩ := hl
  exact ⟨f, ⟨h _ _ hq e1, h _ _ (by omega) e2⟩, r⟩
theorem jsub_Wv (h : ∀ k c, 2 ≤ k → X[k]? = some c → Y[k]? = some c) {c : Nat} {wt : Nat → Option (List Nat)} (hw : jWv X c wt) : jWv Y c wt := by
  obtain ⟨f, wl, w1, w2, w3, w4⟩ := hw
  exact ⟨f, wl, h _ _ (by decide) w1, w2, h _ _ (by decide) w3, fun k hk => by obtain ⟨row, r1, r2⟩ := w4 k hk; exact ⟨row, h _ _ (by omega) r1, r2⟩⟩
theorem jsub_Rr (h : ∀ k c, 2 ≤ k → X[k]? = some c → Y[k]? = some c) {kd vr fs sc mt lv pt hd : Nat → Int32} {a b c : Int32} (hr : jRr X 2 kd vr fs sc mt lv a b c pt hd) : jRr Y 2 kd vr fs sc mt lv a b c pt hd := by
  obtain ⟨r0, r1, r2, r3, r4, r5, r6, r7, r8⟩ := hr
  exact ⟨h _ _ (by decide) r0, h _ _ (by decide) r1, h _ _ (by decide) r2, h _ _ (by decide) r3, h _ _ (by decide) r4, h _ _ (by decide) r5, h _ _ (by decide) r6, h _ _ (by decide) r7, h _ _ (by decide) r8⟩
end JSUB
section JT4
variable (l : Launch) (D : va_G) (g : Nat × Nat)
set_option maxHeartbeats 16000000 in
set_option maxRecDepth 100000 in
theorem c_T_init' {z : ja_C} : AMet l D g 4 143 32198 m_T_init [.ref 1] [z, .inr (9, [.null, .null, .null])] (fun r X' => r = none ∧ jCl X' 0 0 (fun _ => 0) (fun _ => 0) (fun _ => 0) (fun _ => 0) (fun _ => 0) (fun _ => 0) (fun _ => []) false (fun _ => 0) (fun _ => 0) (fun _ => 0) 0 (-1) ∧ X'[0]? = some z) := by
  refine ja_metK (by decide) rfl (Nat.le_of_ble_eq_true rfl) fun K hB hF => ?_
  have hA : [z].length = 1 := rfl
  refine kw_aload_n hB T_init_0 rfl ?_
  refine kw_objInit hB T_init_1 (jm 89 (by decide +kernel) rfl) (jm 90 (by decide +kernel) rfl) (jm 91 (by decide +kernel) rfl) (by decide) (Nat.le_of_ble_eq_true rfl) ?_
  show K 4 [.ref 1] [] ([z] ++ (.inr (9, [.null, .null, .null]) :: [])) 0 0
  refine kw_aload_n hB T_init_4 rfl ?_
  refine kx_new hB hA (b := 0) rfl T_init_5 (ci := 1) (fs := [.null, .null, .null, .null, .null, .null, .int 0, .int 0, .int 0, .null, .null]) rfl ji_R jt_R jo_R (jm 92 (by decide +kernel) rfl) (jm 93 (by decide +kernel) rfl) (jm 70 (by decide +kernel) rfl) (fun _ => rfl) (by decide) (by decide) (by decide) ?_
  refine kw_dup hB T_init_8 rfl ?_
  refine kw_callI hB T_init_9 s_T_9 im_R_init rfl rfl (As := []) (x_of l D g (c_R_init' l D g) hA (b := 0) rfl) rfl (by decide) (Nat.le_of_ble_eq_true rfl) (by omega) (by omega) (fun r X1 hq hl => ?_)
  obtain ⟨rfl, rfl⟩ := hq
  refine kx_putF hB hA T_init_12 ⟨_, rfl, ji_T, by decide, (jm 394 (by decide +kernel) rfl)⟩ jc_T jw_T_0 rfl (Nat.le_of_ble_eq_true rfl) rfl rfl (fs' := [.ref 2, .null, .null]) rfl ?_
  refine kw_aload_n hB T_init_15 rfl ?_
  refine kx_new hB hA (b := 9) rfl T_init_16 (ci := 7) (fs := [.null, .null, .int 0, .int 0, .null, .null, .null, .null, .null, .null, .null, .null, .null, .null, .null, .null, .null]) rfl ji_A jt_A jo_A (jm 151 (by decide +kernel) rfl) (jm 152 (by decide +kernel) rfl) (jm 71 (by decide +kernel) rfl) (fun _ => rfl) (by decide) (by decide) (by decide) ?_
  refine kw_dup hB T_init_19 rfl ?_
  have eh : ([z] ++ (.inr (9, [.ref 2, .null, .null]) :: (([] ++ jcR (1 + 1 + 0)) ++ [.inr (7, [.null, .null, .int 0, .int 0, .null, .null, .null, .null, .null, .null, .null, .null, .null, .null, .null, .null, .null])])) : ja_H) = ([z] ++ (.inr (9, [.ref 2, .null, .null]) :: jcR 2)) ++ [.inr (7, [.null, .null, .int 0, .int 0, .null, .null, .null, .null, .null, .null, .null, .null, .null, .null, .null, .null, .null])] := rfl
  rw [eh]
  refine kw_callI hB T_init_20 s_T_18 im_A_init rfl rfl (As := []) (c_A_init' l D g (A := [z] ++ (.inr (9, [.ref 2, .null, .null]) :: jcR 2)) rfl (wt := fun _ => none)) rfl (by decide) (Nat.le_of_ble_eq_true rfl) (by omega) (by omega) (fun r X1 hq hl => ?_)
  obtain ⟨rfl, p1, p2, p3, p4, p5⟩ := hq
  have hl1 : X1.length = 140 := by rw [hl]; rfl
  have c1 : X1[1]? = some (.inr (9, [.ref 2, .null, .null])) := (p5 1 (by decide)).trans rfl
  have cz : X1[0]? = some z := (p5 0 (by decide)).trans rfl
  have cR : jRr X1 2 (fun _ => 0) (fun _ => 0) (fun _ => 0) (fun _ => 0) (fun _ => 0) (fun _ => 0) (nI 0) (nI 0) (nI 0) (fun _ => 0) (fun _ => 0) := ⟨(p5 2 (by decide)).trans rfl, (p5 3 (by decide)).trans rfl, (p5 4 (by decide)).trans rfl, (p5 5 (by decide)).trans rfl, (p5 6 (by decide)).trans rfl, (p5 7 (by decide)).trans rfl, (p5 8 (by decide)).trans rfl, (p5 9 (by decide)).trans rfl, (p5 10 (by decide)).trans rfl⟩
  refine kw_putF hB T_init_23 ⟨_, rfl, ji_T, by decide, (jm 395 (by decide +kernel) rfl)⟩ jc_T jw_T_1 rfl c1 (Nat.le_of_ble_eq_true rfl) rfl rfl ?_
  have hf := jset_fr X1 1 (.inr (9, [.ref 2, .ref 11, .null]))
  have hl2 : (X1.set 1 (.inr (9, [.ref 2, .ref 11, .null]))).length = 140 := by rw [List.length_set]; exact hl1
  have c2 : (X1.set 1 (.inr (9, [.ref 2, .ref 11, .null])))[1]? = some (.inr (9, [.ref 2, .ref 11, .null])) := List.getElem?_set_self (by omega)
  show K 26 [.ref 1] [] (X1.set 1 (.inr (9, [.ref 2, .ref 11, .null]))) _ _
  generalize X1.set 1 (.inr (9, [.ref 2, .ref 11, .null])) = X2 at hf hl2 c2
  refine kw_aload_n hB T_init_26 rfl ?_
  refine kw_new hB T_init_27 (ci := 8) (fs := [.null, .null, .null, .int 0, .int 0, .null]) rfl ji_N jt_N jo_N (jm 365 (by decide +kernel) rfl) (jm 366 (by decide +kernel) rfl) (jm 81 (by decide +kernel) rfl) (by show ∀ j, j < 6 → defaultValue (jt_N j) = vp_V [.null, .null, .null, .int 0, .int 0, .null] j; decide) (by decide) (by decide) ?_
  rw [hl2]
  refine kw_dup hB T_init_30 rfl ?_
  refine kw_callI hB T_init_31 s_T_25 im_N_init rfl rfl (As := []) (c_N_init' l D g hl2) rfl (by decide) (Nat.le_of_ble_eq_true rfl) (by decide) (by decide) (fun r X3 hq3 hl3 => ?_)
  obtain ⟨rfl, rfl⟩ := hq3
  have lo : ∀ k, k < 140 → (X2 ++ jcN 140)[k]? = X2[k]? := fun k hk => List.getElem?_append_left (by omega)
  have hi : ∀ k, (X2 ++ jcN 140)[140 + k]? = (jcN 140)[k]? := fun k => by rw [List.getElem?_append_right (by omega), hl2, Nat.add_sub_cancel_left]
  have hl4 : (X2 ++ jcN 140).length = 145 := by rw [List.length_append, hl2]; rfl
  refine kw_putF hB T_init_34 ⟨_, rfl, ji_T, by decide, (jm 396 (by decide +kernel) rfl)⟩ jc_T jw_T_2 rfl ((lo 1 (by decide)).trans c2) (Nat.le_of_ble_eq_true rfl) rfl rfl ?_
  have hf2 := jset_fr (X2 ++ jcN 140) 1 (.inr (9, [.ref 2, .ref 11, .ref 140]))
  have m1 : ∀ j ∈ [1], j = 1 := fun j hj => List.mem_singleton.mp hj
  have n1 : ∀ j, j ≠ 1 → j ∉ [1] := fun j hj z => hj (List.mem_singleton.mp z)
  have all : ∀ k c, k < 140 → k ≠ 1 → X1[k]? = some c → ((X2 ++ jcN 140).set 1 (.inr (9, [.ref 2, .ref 11, .ref 140])))[k]? = some c := fun k c h1 h2 h3 => hf2.at (n1 k h2) ((lo k h1).trans (hf.at (n1 k h2) h3))
  have new : ∀ k c, (jcN 140)[k]? = some c → ((X2 ++ jcN 140).set 1 (.inr (9, [.ref 2, .ref 11, .ref 140])))[140 + k]? = some c := fun k c h3 => hf2.at (n1 _ (by omega)) ((hi k).trans h3)
  have c9 : ((X2 ++ jcN 140).set 1 (.inr (9, [.ref 2, .ref 11, .ref 140])))[1]? = some (.inr (9, [.ref 2, .ref 11, .ref 140])) := List.getElem?_set_self (by omega)
  have hl5 : ((X2 ++ jcN 140).set 1 (.inr (9, [.ref 2, .ref 11, .ref 140]))).length = 145 := by rw [List.length_set]; exact hl4
  show K 37 [.ref 1] [] ((X2 ++ jcN 140).set 1 (.inr (9, [.ref 2, .ref 11, .ref 140]))) _ _
  generalize (X2 ++ jcN 140).set 1 (.inr (9, [.ref 2, .ref 11, .ref 140])) = Y at all new c9 hl5
  have sub : ∀ k c, 2 ≤ k → X1[k]? = some c → Y[k]? = some c := fun k c h1 h2 => all k c (by have := (List.getElem?_eq_some_iff.mp h2).1; omega) (by omega) h2
  refine kw_vret hF rfl T_init_37 ⟨rfl, ⟨c9, jPP_0 rfl, ⟨_, _, _, _, _, _, _, _, jsub_Rr sub cR, fun i hi => absurd hi (by omega), fun a x t e => (by cases a <;> cases e)⟩, ⟨_, _, jsub_A0 sub p1, fun z => (by cases z)⟩, ⟨_, jsub_Sk sub p2, fun z => (by cases z)⟩, jsub_Lv sub (by decide) p3, ⟨_, _, jsub_Wv sub p4, fun z => (by cases z)⟩, ⟨fun _ => 0, fun _ => 0, fun _ => 0, fun _ => 0, fun _ => 0, ⟨new 0 _ rfl, new 1 _ rfl, new 2 _ rfl, new 3 _ rfl, new 4 _ rfl⟩, fun i hi => ⟨rfl, jdg_0 4, (by decide : (0 : Nat) < 2 ^ 24)⟩, fun i _ hi => absurd hi (by omega), fun v hv => ⟨rfl, jdg_0 8, (by decide : (0 : Nat) < 2 ^ 60)⟩⟩, by decide⟩, all 0 z (by decide) (by decide) cz⟩ (by rw [hl5]; rfl)
end JT4
