-- the constructor of Automaton
section JCB
variable (l : Launch) (D : va_G) (g : Nat × Nat)
def jcB (q : Nat) : ja_H := .inr (2, [.int 0, .ref (q + 1), .ref (q + 2), .ref (q + 3), .ref (q + 4), .ref (q + 5), .ref (q + 6), .ref (q + 7), .ref (q + 8)]) :: ([.inl (0, 12288, .inl (fun _ => 0))] ++ [.inl (2, 1536, .inl (fun _ => 0))] ++ [.inl (0, 1536, .inl (fun _ => 0))] ++ [.inl (0, 1536, .inl (jfl (fun _ => 0) 0 1536 (-1)))] ++ [.inl (0, 1536, .inl (fun _ => 0))] ++ [.inl (0, 1536, .inl (fun _ => 0))] ++ [.inl (0, 1536, .inl (fun _ => 0))] ++ [.inl (1, 24, .inr (.inl (fun _ => 0)))])
set_option maxHeartbeats 8000000 in
set_option maxRecDepth 100000 in
theorem c_B_init' {A : ja_H} {q : Nat} (hA : A.length = q) : AMet l D g 1 8 21528 m_B_init [.ref q] (A ++ [.inr (2, [.int 0, .null, .null, .null, .null, .null, .null, .null, .null])]) (fun r X' => r = none ∧ X' = A ++ jcB q) := by
  refine ja_metK (by decide) rfl (Nat.le_of_ble_eq_true rfl) fun K hB hF => ?_
  refine kw_aload_n hB B_init_0 rfl ?_
  refine kw_objInit hB B_init_1 (jm 185 (by decide +kernel) rfl) (jm 90 (by decide +kernel) rfl) (jm 91 (by decide +kernel) rfl) (by decide) (Nat.le_of_ble_eq_true rfl) ?_
  show K 4 [.ref q] [] (A ++ (.inr (2, [.int 0, .null, .null, .null, .null, .null, .null, .null, .null]) :: [])) 0 0
  refine kw_aload_n hB B_init_4 rfl ?_
  refine kw_sipush hB B_init_5 (v := nI 12288) (by decide) ?_
  refine kx_newa hB hA (b := 0) rfl (N' := 12288) (a0 := (12288, .inl (fun _ => 0))) B_init_8 rfl (t := 0) rfl (jm 150 (by decide +kernel) rfl) (fun cA => rfl) (by decide) (by decide) (by decide) (by decide) (by decide) ?_
  refine kx_putF hB hA B_init_10 ⟨_, rfl, ji_B, by decide, (jm 190 (by decide +kernel) rfl)⟩ jc_B jw_B_1 rfl (Nat.le_of_ble_eq_true rfl) rfl rfl (fs' := [.int 0, .ref (q + 1), .null, .null, .null, .null, .null, .null, .null]) rfl ?_
  refine kw_aload_n hB B_init_13 rfl ?_
  refine kw_sipush hB B_init_14 (v := nI 1536) (by decide) ?_
  refine kx_newa hB hA (b := 1) rfl (N' := 1536) (a0 := (1536, .inl (fun _ => 0))) B_init_17 rfl (t := 2) rfl (jm 217 (by decide +kernel) rfl) (fun cA => rfl) (by decide) (by decide) (by decide) (by decide) (by decide) ?_
  refine kx_putF hB hA B_init_19 ⟨_, rfl, ji_B, by decide, (jm 191 (by decide +kernel) rfl)⟩ jc_B jw_B_2 rfl (Nat.le_of_ble_eq_true rfl) rfl rfl (fs' := [.int 0, .ref (q + 1), .ref (q + 2), .null, .null, .null, .null, .null, .null]) rfl ?_
  refine kw_aload_n hB B_init_22 rfl ?_
  refine kw_sipush hB B_init_23 (v := nI 1536) (by decide) ?_
  refine kx_newa hB hA (b := 2) rfl (N' := 1536) (a0 := (1536, .inl (fun _ => 0))) B_init_26 rfl (t := 0) rfl (jm 150 (by decide +kernel) rfl) (fun cA => rfl) (by decide) (by decide) (by decide) (by decide) (by decide) ?_
  refine kx_putF hB hA B_init_28 ⟨_, rfl, ji_B, by decide, (jm 192 (by decide +kernel) rfl)⟩ jc_B jw_B_3 rfl (Nat.le_of_ble_eq_true rfl) rfl rfl (fs' := [.int 0, .ref (q + 1), .ref (q + 2), .ref (q + 3), .null, .null, .null, .null, .null]) rfl ?_
  refine kw_aload_n hB B_init_31 rfl ?_
  refine kw_sipush hB B_init_32 (v := nI 1536) (by decide) ?_
  refine kx_newa hB hA (b := 3) rfl (N' := 1536) (a0 := (1536, .inl (fun _ => 0))) B_init_35 rfl (t := 0) rfl (jm 150 (by decide +kernel) rfl) (fun cA => rfl) (by decide) (by decide) (by decide) (by decide) (by decide) ?_
  refine kx_putF hB hA B_init_37 ⟨_, rfl, ji_B, by decide, (jm 193 (by decide +kernel) rfl)⟩ jc_B jw_B_4 rfl (Nat.le_of_ble_eq_true rfl) rfl rfl (fs' := [.int 0, .ref (q + 1), .ref (q + 2), .ref (q + 3), .ref (q + 4), .null, .null, .null, .null]) rfl ?_
  refine kw_aload_n hB B_init_40 rfl ?_
  refine kw_sipush hB B_init_41 (v := nI 1536) (by decide) ?_
  refine kx_newa hB hA (b := 4) rfl (N' := 1536) (a0 := (1536, .inl (fun _ => 0))) B_init_44 rfl (t := 0) rfl (jm 150 (by decide +kernel) rfl) (fun cA => rfl) (by decide) (by decide) (by decide) (by decide) (by decide) ?_
  refine kx_putF hB hA B_init_46 ⟨_, rfl, ji_B, by decide, (jm 194 (by decide +kernel) rfl)⟩ jc_B jw_B_5 rfl (Nat.le_of_ble_eq_true rfl) rfl rfl (fs' := [.int 0, .ref (q + 1), .ref (q + 2), .ref (q + 3), .ref (q + 4), .ref (q + 5), .null, .null, .null]) rfl ?_
  refine kw_aload_n hB B_init_49 rfl ?_
  refine kw_sipush hB B_init_50 (v := nI 1536) (by decide) ?_
  refine kx_newa hB hA (b := 5) rfl (N' := 1536) (a0 := (1536, .inl (fun _ => 0))) B_init_53 rfl (t := 0) rfl (jm 150 (by decide +kernel) rfl) (fun cA => rfl) (by decide) (by decide) (by decide) (by decide) (by decide) ?_
  refine kx_putF hB hA B_init_55 ⟨_, rfl, ji_B, by decide, (jm 195 (by decide +kernel) rfl)⟩ jc_B jw_B_6 rfl (Nat.le_of_ble_eq_true rfl) rfl rfl (fs' := [.int 0, .ref (q + 1), .ref (q + 2), .ref (q + 3), .ref (q + 4), .ref (q + 5), .ref (q + 6), .null, .null]) rfl ?_
  refine kw_aload_n hB B_init_58 rfl ?_
  refine kw_sipush hB B_init_59 (v := nI 1536) (by decide) ?_
  refine kx_newa hB hA (b := 6) rfl (N' := 1536) (a0 := (1536, .inl (fun _ => 0))) B_init_62 rfl (t := 0) rfl (jm 150 (by decide +kernel) rfl) (fun cA => rfl) (by decide) (by decide) (by decide) (by decide) (by decide) ?_
  refine kx_putF hB hA B_init_64 ⟨_, rfl, ji_B, by decide, (jm 196 (by decide +kernel) rfl)⟩ jc_B jw_B_7 rfl (Nat.le_of_ble_eq_true rfl) rfl rfl (fs' := [.int 0, .ref (q + 1), .ref (q + 2), .ref (q + 3), .ref (q + 4), .ref (q + 5), .ref (q + 6), .ref (q + 7), .null]) rfl ?_
  refine kw_aload_n hB B_init_67 rfl ?_
  refine kw_bipush hB B_init_68 (v := nI 24) (by decide) ?_
  refine kx_newa hB hA (b := 7) rfl (N' := 24) (a0 := (24, .inr (.inl (fun _ => 0)))) B_init_70 rfl (t := 1) rfl (jm 218 (by decide +kernel) rfl) (fun cA => rfl) (by decide) (by decide) (by decide) (by decide) (by decide) ?_
  refine kx_putF hB hA B_init_72 ⟨_, rfl, ji_B, by decide, (jm 197 (by decide +kernel) rfl)⟩ jc_B jw_B_8 rfl (Nat.le_of_ble_eq_true rfl) rfl rfl (fs' := [.int 0, .ref (q + 1), .ref (q + 2), .ref (q + 3), .ref (q + 4), .ref (q + 5), .ref (q + 6), .ref (q + 7), .ref (q + 8)]) rfl ?_
  refine kw_aload_n hB B_init_75 rfl ?_
  refine kw_getf hB B_init_76 f_B_26 (jx_at hA) rfl ?_
  refine kw_iconst hB B_init_79 (v := -1) (by decide) ?_
  refine kw_callS hB B_init_80 s_B_42 st_J_fillI (As := [.ref (q + 1 + 3), .int (-1)]) (c_J_fillI l D g (q := q + 1 + 3) (n := 1536) (f := fun _ => 0) ((jx_atB hA 3).trans rfl) (by decide)) rfl (by decide) (Nat.le_of_ble_eq_true rfl) (by omega) (by omega) (fun r X1 hq hl => ?_)
  obtain ⟨rfl, rfl⟩ := hq
  rw [jx_setB hA 3]
  refine kw_vret hF rfl B_init_83 ⟨rfl, rfl⟩ (by simp)
end JCB
