-- more constructors
section JCT2
variable (l : Launch) (D : va_G) (g : Nat × Nat)
def jcR (q : Nat) : ja_H := .inr (1, [.ref (q + 1), .ref (q + 2), .ref (q + 3), .ref (q + 4), .ref (q + 5), .ref (q + 6), .int 0, .int 0, .int 0, .ref (q + 7), .ref (q + 8)]) :: ([.inl (0, 24, .inl (fun _ => 0))] ++ [.inl (0, 24, .inl (fun _ => 0))] ++ [.inl (0, 24, .inl (fun _ => 0))] ++ [.inl (0, 24, .inl (fun _ => 0))] ++ [.inl (0, 24, .inl (fun _ => 0))] ++ [.inl (0, 24, .inl (fun _ => 0))] ++ [.inl (0, 3, .inl (fun _ => 0))] ++ [.inl (0, 3, .inl (fun _ => 0))])
set_option maxHeartbeats 8000000 in
set_option maxRecDepth 100000 in
theorem c_R_init' {A : ja_H} {q : Nat} (hA : A.length = q) : AMet l D g 1 8 150 m_R_init [.ref q] (A ++ [.inr (1, [.null, .null, .null, .null, .null, .null, .int 0, .int 0, .int 0, .null, .null])]) (fun r X' => r = none ∧ X' = A ++ jcR q) := by
  refine ja_metK (by decide) rfl (Nat.le_of_ble_eq_true rfl) fun K hB hF => ?_
  refine kw_aload_n hB R_init_0 rfl ?_
  refine kw_objInit hB R_init_1 (jm 97 (by decide +kernel) rfl) (jm 90 (by decide +kernel) rfl) (jm 91 (by decide +kernel) rfl) (by decide) (Nat.le_of_ble_eq_true rfl) ?_
  show K 4 [.ref q] [] (A ++ (.inr (1, [.null, .null, .null, .null, .null, .null, .int 0, .int 0, .int 0, .null, .null]) :: [])) 0 0
  refine kw_aload_n hB R_init_4 rfl ?_
  refine kw_bipush hB R_init_5 (v := nI 24) (by decide) ?_
  refine kx_newa hB hA (b := 0) rfl (N' := 24) (a0 := (24, .inl (fun _ => 0))) R_init_7 rfl (t := 0) rfl (jm 150 (by decide +kernel) rfl) (fun cA => rfl) (by decide) (by decide) (by decide) (by decide) (by decide) ?_
  refine kx_putF hB hA R_init_9 ⟨_, rfl, ji_R, by decide, (jm 98 (by decide +kernel) rfl)⟩ jc_R jw_R_0 rfl (Nat.le_of_ble_eq_true rfl) rfl rfl (fs' := [.ref (q + 1), .null, .null, .null, .null, .null, .int 0, .int 0, .int 0, .null, .null]) rfl ?_
  refine kw_aload_n hB R_init_12 rfl ?_
  refine kw_bipush hB R_init_13 (v := nI 24) (by decide) ?_
  refine kx_newa hB hA (b := 1) rfl (N' := 24) (a0 := (24, .inl (fun _ => 0))) R_init_15 rfl (t := 0) rfl (jm 150 (by decide +kernel) rfl) (fun cA => rfl) (by decide) (by decide) (by decide) (by decide) (by decide) ?_
  refine kx_putF hB hA R_init_17 ⟨_, rfl, ji_R, by decide, (jm 102 (by decide +kernel) rfl)⟩ jc_R jw_R_1 rfl (Nat.le_of_ble_eq_true rfl) rfl rfl (fs' := [.ref (q + 1), .ref (q + 2), .null, .null, .null, .null, .int 0, .int 0, .int 0, .null, .null]) rfl ?_
  refine kw_aload_n hB R_init_20 rfl ?_
  refine kw_bipush hB R_init_21 (v := nI 24) (by decide) ?_
  refine kx_newa hB hA (b := 2) rfl (N' := 24) (a0 := (24, .inl (fun _ => 0))) R_init_23 rfl (t := 0) rfl (jm 150 (by decide +kernel) rfl) (fun cA => rfl) (by decide) (by decide) (by decide) (by decide) (by decide) ?_
  refine kx_putF hB hA R_init_25 ⟨_, rfl, ji_R, by decide, (jm 105 (by decide +kernel) rfl)⟩ jc_R jw_R_2 rfl (Nat.le_of_ble_eq_true rfl) rfl rfl (fs' := [.ref (q + 1), .ref (q + 2), .ref (q + 3), .null, .null, .null, .int 0, .int 0, .int 0, .null, .null]) rfl ?_
  refine kw_aload_n hB R_init_28 rfl ?_
  refine kw_bipush hB R_init_29 (v := nI 24) (by decide) ?_
  refine kx_newa hB hA (b := 3) rfl (N' := 24) (a0 := (24, .inl (fun _ => 0))) R_init_31 rfl (t := 0) rfl (jm 150 (by decide +kernel) rfl) (fun cA => rfl) (by decide) (by decide) (by decide) (by decide) (by decide) ?_
  refine kx_putF hB hA R_init_33 ⟨_, rfl, ji_R, by decide, (jm 108 (by decide +kernel) rfl)⟩ jc_R jw_R_3 rfl (Nat.le_of_ble_eq_true rfl) rfl rfl (fs' := [.ref (q + 1), .ref (q + 2), .ref (q + 3), .ref (q + 4), .null, .null, .int 0, .int 0, .int 0, .null, .null]) rfl ?_
  refine kw_aload_n hB R_init_36 rfl ?_
  refine kw_bipush hB R_init_37 (v := nI 24) (by decide) ?_
  refine kx_newa hB hA (b := 4) rfl (N' := 24) (a0 := (24, .inl (fun _ => 0))) R_init_39 rfl (t := 0) rfl (jm 150 (by decide +kernel) rfl) (fun cA => rfl) (by decide) (by decide) (by decide) (by decide) (by decide) ?_
  refine kx_putF hB hA R_init_41 ⟨_, rfl, ji_R, by decide, (jm 111 (by decide +kernel) rfl)⟩ jc_R jw_R_4 rfl (Nat.le_of_ble_eq_true rfl) rfl rfl (fs' := [.ref (q + 1), .ref (q + 2), .ref (q + 3), .ref (q + 4), .ref (q + 5), .null, .int 0, .int 0, .int 0, .null, .null]) rfl ?_
  refine kw_aload_n hB R_init_44 rfl ?_
  refine kw_bipush hB R_init_45 (v := nI 24) (by decide) ?_
  refine kx_newa hB hA (b := 5) rfl (N' := 24) (a0 := (24, .inl (fun _ => 0))) R_init_47 rfl (t := 0) rfl (jm 150 (by decide +kernel) rfl) (fun cA => rfl) (by decide) (by decide) (by decide) (by decide) (by decide) ?_
  refine kx_putF hB hA R_init_49 ⟨_, rfl, ji_R, by decide, (jm 114 (by decide +kernel) rfl)⟩ jc_R jw_R_5 rfl (Nat.le_of_ble_eq_true rfl) rfl rfl (fs' := [.ref (q + 1), .ref (q + 2), .ref (q + 3), .ref (q + 4), .ref (q + 5), .ref (q + 6), .int 0, .int 0, .int 0, .null, .null]) rfl ?_
  refine kw_aload_n hB R_init_52 rfl ?_
  refine kw_iconst hB R_init_53 (v := nI 3) (by decide) ?_
  refine kx_newa hB hA (b := 6) rfl (N' := 3) (a0 := (3, .inl (fun _ => 0))) R_init_54 rfl (t := 0) rfl (jm 150 (by decide +kernel) rfl) (fun cA => rfl) (by decide) (by decide) (by decide) (by decide) (by decide) ?_
  refine kx_putF hB hA R_init_56 ⟨_, rfl, ji_R, by decide, (jm 125 (by decide +kernel) rfl)⟩ jc_R jw_R_9 rfl (Nat.le_of_ble_eq_true rfl) rfl rfl (fs' := [.ref (q + 1), .ref (q + 2), .ref (q + 3), .ref (q + 4), .ref (q + 5), .ref (q + 6), .int 0, .int 0, .int 0, .ref (q + 7), .null]) rfl ?_
  refine kw_aload_n hB R_init_59 rfl ?_
  refine kw_iconst hB R_init_60 (v := nI 3) (by decide) ?_
  refine kx_newa hB hA (b := 7) rfl (N' := 3) (a0 := (3, .inl (fun _ => 0))) R_init_61 rfl (t := 0) rfl (jm 150 (by decide +kernel) rfl) (fun cA => rfl) (by decide) (by decide) (by decide) (by decide) (by decide) ?_
  refine kx_putF hB hA R_init_63 ⟨_, rfl, ji_R, by decide, (jm 126 (by decide +kernel) rfl)⟩ jc_R jw_R_10 rfl (Nat.le_of_ble_eq_true rfl) rfl rfl (fs' := [.ref (q + 1), .ref (q + 2), .ref (q + 3), .ref (q + 4), .ref (q + 5), .ref (q + 6), .int 0, .int 0, .int 0, .ref (q + 7), .ref (q + 8)]) rfl ?_
  refine kw_vret hF rfl R_init_66 ⟨rfl, rfl⟩ (by simp [jcL])
def jcP (q : Nat) : ja_H := .inr (3, [.ref (q + 1), .ref (q + 3), .int 0]) :: (jcL (q + 1) ++ jcL (q + 3))
set_option maxHeartbeats 8000000 in
set_option maxRecDepth 100000 in
theorem c_P_init' {A : ja_H} {q : Nat} (hA : A.length = q) : AMet l D g 2 4 390 m_P_init [.ref q] (A ++ [.inr (3, [.null, .null, .int 0])]) (fun r X' => r = none ∧ X' = A ++ jcP q) := by
  refine ja_metK (by decide) rfl (Nat.le_of_ble_eq_true rfl) fun K hB hF => ?_
  refine kw_aload_n hB P_init_0 rfl ?_
  refine kw_callI hB P_init_1 s_P_1 im_U_init rfl rfl (As := []) (c_U_init l D g) rfl (by decide) (Nat.le_of_ble_eq_true rfl) (by omega) (by omega) (fun r X1 hq hl => ?_)
  obtain ⟨rfl, hxeq⟩ := hq
  obtain rfl := hxeq.symm
  show K 4 [.ref q] [] (A ++ (.inr (3, [.null, .null, .int 0]) :: [])) 0 0
  refine kw_aload_n hB P_init_4 rfl ?_
  refine kx_new hB hA (b := 0) rfl P_init_5 (ci := 0) (fs := [.int 0, .int 0, .null]) rfl ji_L jt_L jo_L (jm 228 (by decide +kernel) rfl) (jm 161 (by decide +kernel) rfl) (jm 72 (by decide +kernel) rfl) (fun _ => rfl) (by decide) (by decide) (by decide) ?_
  refine kw_dup hB P_init_8 rfl ?_
  refine kw_callI hB P_init_9 s_P_9 im_L_init rfl rfl (As := []) (x_of l D g (c_L_init' l D g) hA (b := 0) rfl) rfl (by decide) (Nat.le_of_ble_eq_true rfl) (by omega) (by omega) (fun r X1 hq hl => ?_)
  obtain ⟨rfl, rfl⟩ := hq
  refine kx_putF hB hA P_init_12 ⟨_, rfl, ji_P, by decide, (jm 230 (by decide +kernel) rfl)⟩ jc_P jw_P_0 rfl (Nat.le_of_ble_eq_true rfl) rfl rfl (fs' := [.ref (q + 1), .null, .int 0]) rfl ?_
  refine kw_aload_n hB P_init_15 rfl ?_
  refine kx_new hB hA (b := 2) rfl P_init_16 (ci := 0) (fs := [.int 0, .int 0, .null]) rfl ji_L jt_L jo_L (jm 228 (by decide +kernel) rfl) (jm 161 (by decide +kernel) rfl) (jm 72 (by decide +kernel) rfl) (fun _ => rfl) (by decide) (by decide) (by decide) ?_
  refine kw_dup hB P_init_19 rfl ?_
  refine kw_callI hB P_init_20 s_P_9 im_L_init rfl rfl (As := []) (x_of l D g (c_L_init' l D g) hA (b := 2) rfl) rfl (by decide) (Nat.le_of_ble_eq_true rfl) (by omega) (by omega) (fun r X1 hq hl => ?_)
  obtain ⟨rfl, rfl⟩ := hq
  refine kx_putF hB hA P_init_23 ⟨_, rfl, ji_P, by decide, (jm 231 (by decide +kernel) rfl)⟩ jc_P jw_P_1 rfl (Nat.le_of_ble_eq_true rfl) rfl rfl (fs' := [.ref (q + 1), .ref (q + 3), .int 0]) rfl ?_
  refine kw_vret hF rfl P_init_26 ⟨rfl, rfl⟩ (by simp [jcL])
def jcQ (q : Nat) : ja_H := .inr (4, [.ref (q + 1), .ref (q + 3)]) :: (jcL (q + 1) ++ jcL (q + 3))
set_option maxHeartbeats 8000000 in
set_option maxRecDepth 100000 in
theorem c_Q_init' {A : ja_H} {q : Nat} (hA : A.length = q) : AMet l D g 2 4 390 m_Q_init [.ref q] (A ++ [.inr (4, [.null, .null])]) (fun r X' => r = none ∧ X' = A ++ jcQ q) := by
  refine ja_metK (by decide) rfl (Nat.le_of_ble_eq_true rfl) fun K hB hF => ?_
  refine kw_aload_n hB Q_init_0 rfl ?_
  refine kw_callI hB Q_init_1 s_Q_3 im_U_init rfl rfl (As := []) (c_U_init l D g) rfl (by decide) (Nat.le_of_ble_eq_true rfl) (by omega) (by omega) (fun r X1 hq hl => ?_)
  obtain ⟨rfl, hxeq⟩ := hq
  obtain rfl := hxeq.symm
  show K 4 [.ref q] [] (A ++ (.inr (4, [.null, .null]) :: [])) 0 0
  refine kw_aload_n hB Q_init_4 rfl ?_
  refine kx_new hB hA (b := 0) rfl Q_init_5 (ci := 0) (fs := [.int 0, .int 0, .null]) rfl ji_L jt_L jo_L (jm 246 (by decide +kernel) rfl) (jm 161 (by decide +kernel) rfl) (jm 72 (by decide +kernel) rfl) (fun _ => rfl) (by decide) (by decide) (by decide) ?_
  refine kw_dup hB Q_init_8 rfl ?_
  refine kw_callI hB Q_init_9 s_Q_11 im_L_init rfl rfl (As := []) (x_of l D g (c_L_init' l D g) hA (b := 0) rfl) rfl (by decide) (Nat.le_of_ble_eq_true rfl) (by omega) (by omega) (fun r X1 hq hl => ?_)
  obtain ⟨rfl, rfl⟩ := hq
  refine kx_putF hB hA Q_init_12 ⟨_, rfl, ji_Q, by decide, (jm 248 (by decide +kernel) rfl)⟩ jc_Q jw_Q_0 rfl (Nat.le_of_ble_eq_true rfl) rfl rfl (fs' := [.ref (q + 1), .null]) rfl ?_
  refine kw_aload_n hB Q_init_15 rfl ?_
  refine kx_new hB hA (b := 2) rfl Q_init_16 (ci := 0) (fs := [.int 0, .int 0, .null]) rfl ji_L jt_L jo_L (jm 246 (by decide +kernel) rfl) (jm 161 (by decide +kernel) rfl) (jm 72 (by decide +kernel) rfl) (fun _ => rfl) (by decide) (by decide) (by decide) ?_
  refine kw_dup hB Q_init_19 rfl ?_
  refine kw_callI hB Q_init_20 s_Q_11 im_L_init rfl rfl (As := []) (x_of l D g (c_L_init' l D g) hA (b := 2) rfl) rfl (by decide) (Nat.le_of_ble_eq_true rfl) (by omega) (by omega) (fun r X1 hq hl => ?_)
  obtain ⟨rfl, rfl⟩ := hq
  refine kx_putF hB hA Q_init_23 ⟨_, rfl, ji_Q, by decide, (jm 249 (by decide +kernel) rfl)⟩ jc_Q jw_Q_1 rfl (Nat.le_of_ble_eq_true rfl) rfl rfl (fs' := [.ref (q + 1), .ref (q + 3)]) rfl ?_
  refine kw_vret hF rfl Q_init_26 ⟨rfl, rfl⟩ (by simp [jcL])
def jcG (q : Nat) : ja_H := .inr (5, [.ref (q + 1)]) :: (jcL (q + 1))
set_option maxHeartbeats 8000000 in
set_option maxRecDepth 100000 in
theorem c_G_init' {A : ja_H} {q : Nat} (hA : A.length = q) : AMet l D g 2 2 195 m_G_init [.ref q] (A ++ [.inr (5, [.null])]) (fun r X' => r = none ∧ X' = A ++ jcG q) := by
  refine ja_metK (by decide) rfl (Nat.le_of_ble_eq_true rfl) fun K hB hF => ?_
  refine kw_aload_n hB G_init_0 rfl ?_
  refine kw_callI hB G_init_1 s_G_5 im_U_init rfl rfl (As := []) (c_U_init l D g) rfl (by decide) (Nat.le_of_ble_eq_true rfl) (by omega) (by omega) (fun r X1 hq hl => ?_)
  obtain ⟨rfl, hxeq⟩ := hq
  obtain rfl := hxeq.symm
  show K 4 [.ref q] [] (A ++ (.inr (5, [.null]) :: [])) 0 0
  refine kw_aload_n hB G_init_4 rfl ?_
  refine kx_new hB hA (b := 0) rfl G_init_5 (ci := 0) (fs := [.int 0, .int 0, .null]) rfl ji_L jt_L jo_L (jm 261 (by decide +kernel) rfl) (jm 161 (by decide +kernel) rfl) (jm 72 (by decide +kernel) rfl) (fun _ => rfl) (by decide) (by decide) (by decide) ?_
  refine kw_dup hB G_init_8 rfl ?_
  refine kw_callI hB G_init_9 s_G_11 im_L_init rfl rfl (As := []) (x_of l D g (c_L_init' l D g) hA (b := 0) rfl) rfl (by decide) (Nat.le_of_ble_eq_true rfl) (by omega) (by omega) (fun r X1 hq hl => ?_)
  obtain ⟨rfl, rfl⟩ := hq
  refine kx_putF hB hA G_init_12 ⟨_, rfl, ji_G, by decide, (jm 263 (by decide +kernel) rfl)⟩ jc_G jw_G_0 rfl (Nat.le_of_ble_eq_true rfl) rfl rfl (fs' := [.ref (q + 1)]) rfl ?_
  refine kw_vret hF rfl G_init_15 ⟨rfl, rfl⟩ (by simp [jcL])
def jcI (q : Nat) : ja_H := .inr (6, [.ref (q + 1), .ref (q + 3), .ref (q + 4)]) :: (jcL (q + 1) ++ [.inl (0, 9, .inl (fun _ => 0))] ++ [.inl (0, 8, .inl (fun _ => 0))])
set_option maxHeartbeats 8000000 in
set_option maxRecDepth 100000 in
theorem c_I_init' {A : ja_H} {q : Nat} (hA : A.length = q) : AMet l D g 2 4 212 m_I_init [.ref q] (A ++ [.inr (6, [.null, .null, .null])]) (fun r X' => r = none ∧ X' = A ++ jcI q) := by
  refine ja_metK (by decide) rfl (Nat.le_of_ble_eq_true rfl) fun K hB hF => ?_
  refine kw_aload_n hB I_init_0 rfl ?_
  refine kw_callI hB I_init_1 s_I_3 im_U_init rfl rfl (As := []) (c_U_init l D g) rfl (by decide) (Nat.le_of_ble_eq_true rfl) (by omega) (by omega) (fun r X1 hq hl => ?_)
  obtain ⟨rfl, hxeq⟩ := hq
  obtain rfl := hxeq.symm
  show K 4 [.ref q] [] (A ++ (.inr (6, [.null, .null, .null]) :: [])) 0 0
  refine kw_aload_n hB I_init_4 rfl ?_
  refine kx_new hB hA (b := 0) rfl I_init_5 (ci := 0) (fs := [.int 0, .int 0, .null]) rfl ji_L jt_L jo_L (jm 273 (by decide +kernel) rfl) (jm 161 (by decide +kernel) rfl) (jm 72 (by decide +kernel) rfl) (fun _ => rfl) (by decide) (by decide) (by decide) ?_
  refine kw_dup hB I_init_8 rfl ?_
  refine kw_callI hB I_init_9 s_I_11 im_L_init rfl rfl (As := []) (x_of l D g (c_L_init' l D g) hA (b := 0) rfl) rfl (by decide) (Nat.le_of_ble_eq_true rfl) (by omega) (by omega) (fun r X1 hq hl => ?_)
  obtain ⟨rfl, rfl⟩ := hq
  refine kx_putF hB hA I_init_12 ⟨_, rfl, ji_I, by decide, (jm 275 (by decide +kernel) rfl)⟩ jc_I jw_I_0 rfl (Nat.le_of_ble_eq_true rfl) rfl rfl (fs' := [.ref (q + 1), .null, .null]) rfl ?_
  refine kw_aload_n hB I_init_15 rfl ?_
  refine kw_bipush hB I_init_16 (v := nI 9) (by decide) ?_
  refine kx_newa hB hA (b := 2) rfl (N' := 9) (a0 := (9, .inl (fun _ => 0))) I_init_18 rfl (t := 0) rfl (jm 150 (by decide +kernel) rfl) (fun cA => rfl) (by decide) (by decide) (by decide) (by decide) (by decide) ?_
  refine kx_putF hB hA I_init_20 ⟨_, rfl, ji_I, by decide, (jm 276 (by decide +kernel) rfl)⟩ jc_I jw_I_1 rfl (Nat.le_of_ble_eq_true rfl) rfl rfl (fs' := [.ref (q + 1), .ref (q + 3), .null]) rfl ?_
  refine kw_aload_n hB I_init_23 rfl ?_
  refine kw_bipush hB I_init_24 (v := nI 8) (by decide) ?_
  refine kx_newa hB hA (b := 3) rfl (N' := 8) (a0 := (8, .inl (fun _ => 0))) I_init_26 rfl (t := 0) rfl (jm 150 (by decide +kernel) rfl) (fun cA => rfl) (by decide) (by decide) (by decide) (by decide) (by decide) ?_
  refine kx_putF hB hA I_init_28 ⟨_, rfl, ji_I, by decide, (jm 277 (by decide +kernel) rfl)⟩ jc_I jw_I_2 rfl (Nat.le_of_ble_eq_true rfl) rfl rfl (fs' := [.ref (q + 1), .ref (q + 3), .ref (q + 4)]) rfl ?_
  refine kw_vret hF rfl I_init_31 ⟨rfl, rfl⟩ (by simp [jcL])
def jcN (q : Nat) : ja_H := .inr (8, [.ref (q + 1), .ref (q + 2), .ref (q + 3), .int (-1), .int 0, .ref (q + 4)]) :: ([.inl (0, 3, .inl (fun _ => 0))] ++ [.inl (1, 20, .inr (.inl (fun _ => 0)))] ++ [.inl (0, 20, .inl (fun _ => 0))] ++ [.inl (1, 5, .inr (.inl (fun _ => 0)))])
set_option maxHeartbeats 8000000 in
set_option maxRecDepth 100000 in
theorem c_N_init' {A : ja_H} {q : Nat} (hA : A.length = q) : AMet l D g 1 4 48 m_N_init [.ref q] (A ++ [.inr (8, [.null, .null, .null, .int 0, .int 0, .null])]) (fun r X' => r = none ∧ X' = A ++ jcN q) := by
  refine ja_metK (by decide) rfl (Nat.le_of_ble_eq_true rfl) fun K hB hF => ?_
  refine kw_aload_n hB N_init_0 rfl ?_
  refine kw_objInit hB N_init_1 (jm 370 (by decide +kernel) rfl) (jm 90 (by decide +kernel) rfl) (jm 91 (by decide +kernel) rfl) (by decide) (Nat.le_of_ble_eq_true rfl) ?_
  show K 4 [.ref q] [] (A ++ (.inr (8, [.null, .null, .null, .int 0, .int 0, .null]) :: [])) 0 0
  refine kw_aload_n hB N_init_4 rfl ?_
  refine kw_iconst hB N_init_5 (v := nI 3) (by decide) ?_
  refine kx_newa hB hA (b := 0) rfl (N' := 3) (a0 := (3, .inl (fun _ => 0))) N_init_6 rfl (t := 0) rfl (jm 150 (by decide +kernel) rfl) (fun cA => rfl) (by decide) (by decide) (by decide) (by decide) (by decide) ?_
  refine kx_putF hB hA N_init_8 ⟨_, rfl, ji_N, by decide, (jm 371 (by decide +kernel) rfl)⟩ jc_N jw_N_0 rfl (Nat.le_of_ble_eq_true rfl) rfl rfl (fs' := [.ref (q + 1), .null, .null, .int 0, .int 0, .null]) rfl ?_
  refine kw_aload_n hB N_init_11 rfl ?_
  refine kw_bipush hB N_init_12 (v := nI 20) (by decide) ?_
  refine kx_newa hB hA (b := 1) rfl (N' := 20) (a0 := (20, .inr (.inl (fun _ => 0)))) N_init_14 rfl (t := 1) rfl (jm 218 (by decide +kernel) rfl) (fun cA => rfl) (by decide) (by decide) (by decide) (by decide) (by decide) ?_
  refine kx_putF hB hA N_init_16 ⟨_, rfl, ji_N, by decide, (jm 373 (by decide +kernel) rfl)⟩ jc_N jw_N_1 rfl (Nat.le_of_ble_eq_true rfl) rfl rfl (fs' := [.ref (q + 1), .ref (q + 2), .null, .int 0, .int 0, .null]) rfl ?_
  refine kw_aload_n hB N_init_19 rfl ?_
  refine kw_bipush hB N_init_20 (v := nI 20) (by decide) ?_
  refine kx_newa hB hA (b := 2) rfl (N' := 20) (a0 := (20, .inl (fun _ => 0))) N_init_22 rfl (t := 0) rfl (jm 150 (by decide +kernel) rfl) (fun cA => rfl) (by decide) (by decide) (by decide) (by decide) (by decide) ?_
  refine kx_putF hB hA N_init_24 ⟨_, rfl, ji_N, by decide, (jm 375 (by decide +kernel) rfl)⟩ jc_N jw_N_2 rfl (Nat.le_of_ble_eq_true rfl) rfl rfl (fs' := [.ref (q + 1), .ref (q + 2), .ref (q + 3), .int 0, .int 0, .null]) rfl ?_
  refine kw_aload_n hB N_init_27 rfl ?_
  refine kw_iconst hB N_init_28 (v := -1) (by decide) ?_
  refine kx_put hB hA N_init_29 f_N_22 jc_N jw_N_3 (Nat.le_of_ble_eq_true rfl) rfl rfl (fs' := [.ref (q + 1), .ref (q + 2), .ref (q + 3), .int (-1), .int 0, .null]) rfl ?_
  refine kw_aload_n hB N_init_32 rfl ?_
  refine kw_iconst hB N_init_33 (v := nI 5) (by decide) ?_
  refine kx_newa hB hA (b := 3) rfl (N' := 5) (a0 := (5, .inr (.inl (fun _ => 0)))) N_init_34 rfl (t := 1) rfl (jm 218 (by decide +kernel) rfl) (fun cA => rfl) (by decide) (by decide) (by decide) (by decide) (by decide) ?_
  refine kx_putF hB hA N_init_36 ⟨_, rfl, ji_N, by decide, (jm 380 (by decide +kernel) rfl)⟩ jc_N jw_N_5 rfl (Nat.le_of_ble_eq_true rfl) rfl rfl (fs' := [.ref (q + 1), .ref (q + 2), .ref (q + 3), .int (-1), .int 0, .ref (q + 4)]) rfl ?_
  refine kw_vret hF rfl N_init_39 ⟨rfl, rfl⟩ (by simp [jcL])
end JCT2
