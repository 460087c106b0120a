-- the law: its loop
section JLW3
variable {l : Launch} {D : va_G} {g : Nat × Nat} {Kk : ja_K} {xs : Nat → Int32} {Ln : Nat}
set_option maxHeartbeats 8000000 in
set_option maxRecDepth 100000 in
theorem law_body (hB : ja_B l D g m_Z_law 14 600000 7302250 Kk) (hlen : ∀ {pc pc' : Nat} {loc st : List Value} {X : ja_H} {nc ns : Nat}, ja_at m_Z_law.2.1 pc pc' .arraylength 1 → Kk pc' loc (.int (nI Ln) :: st) X nc ns → Kk pc loc (.ref 0 :: st) X nc ns) (hld : ∀ {j pc pc' : Nat} {loc st : List Value} {X : ja_H} {nc ns : Nat}, j < Ln → ja_at m_Z_law.2.1 pc pc' .iaload 1 → Kk pc' loc (.int (xs j) :: st) X nc ns → Kk pc loc (.int (nI j) :: .ref 0 :: st) X nc ns) (hend : ∀ {loc : List Value} {X : ja_H} {nc ns : Nat}, nc ≤ 600000 → ns ≤ 7302250 → Kk 763 loc [.int (nI 1)] X nc ns) (hL : Ln ≤ 2048) : Kk 0 [.ref 0, .retAddr 0, .retAddr 0, .retAddr 0] [] [ja_z] 0 0 := by
  have step : ∀ (i : Nat) (X : ja_H), i ≤ 2052 → (i + 4 ≤ Ln → Kk 26 [.ref 0, .ref 1, .ref 145, .int (nI i)] [] X 170 44127) → Kk 18 [.ref 0, .ref 1, .ref 145, .int (nI i)] [] X 170 44127 := by
    intro i X hi kk
    refine kw_iload_n hB Z_law_18 rfl ?_
    refine kw_aload_n hB Z_law_19 rfl ?_
    refine hlen Z_law_20 ?_
    refine kw_iconst hB Z_law_21 (v := nI 4) (by decide) ?_
    refine kw_isub hB Z_law_22 ?_
    refine kw_icmp_gt hB Z_law_23 (fun _ => ?_) (fun z => kk ?_)
    · refine kw_iconst hB Z_law_762 (v := nI 1) (by decide) ?_
      exact hend (by decide) (by decide)
    · have e1 := pk_sub_toInt (a := Ln) (b := 4) (by omega) (by decide)
      have e2 : (nI i).toInt = (i : Int) := nI_toInt (by omega)
      have e3 : ¬ (nI Ln - nI 4).toInt < (nI i).toInt := fun q => z (Int32.lt_iff_toInt_lt.mpr q)
      rw [e1, e2] at e3
      omega
  have loop : ∀ (f i : Nat) (X : ja_H), Ln < i + f → i ≤ 2052 → jBoth X → Kk 18 [.ref 0, .ref 1, .ref 145, .int (nI i)] [] X 170 44127 := by
    intro f
    induction f with
    | zero => exact fun i X h1 h2 hb => step i X h2 (fun z => absurd z (by omega))
    | succ f ih =>
      intro i X h1 h2 hb
      refine step i X h2 (fun hi => ?_)
      have nxt : ∀ X' : ja_H, jBoth X' → X'.length = X.length → Kk 756 [.ref 0, .ref 1, .ref 145, .int (nI i)] [] X' 170 44127 := fun X' hb' _ => by
        refine kw_iinc hB Z_law_756 (x := nI i) (v := nI (i + 4)) rfl (nI_add i 4) (by decide) rfl ?_
        refine kw_goto hB Z_law_759 ?_
        exact ih (i + 4) X' (by omega) (by omega) hb'
      refine kw_aload_n hB Z_law_26 rfl ?_
      refine kw_iload_n hB Z_law_27 rfl ?_
      refine hld (by omega) Z_law_28 ?_
      refine kw_bipush hB Z_law_29 (v := nI 31) (by decide) ?_
      refine kw_iand hB Z_law_31 ?_
      obtain ⟨c, hc, e⟩ := j31 (xs i)
      rw [e]
      by_cases h21 : c < 21
      · rcases (by omega : c = 0 ∨ c = 1 ∨ c = 2 ∨ c = 3 ∨ c = 4 ∨ c = 5 ∨ c = 6 ∨ c = 7 ∨ c = 8 ∨ c = 9 ∨ c = 10 ∨ c = 11 ∨ c = 12 ∨ c = 13 ∨ c = 14 ∨ c = 15 ∨ c = 16 ∨ c = 17 ∨ c = 18 ∨ c = 19 ∨ c = 20) with rfl | rfl | rfl | rfl | rfl | rfl | rfl | rfl | rfl | rfl | rfl | rfl | rfl | rfl | rfl | rfl | rfl | rfl | rfl | rfl | rfl
        · refine kw_tableIn hB Z_law_32 (off := 100) (tgt := 132) (by decide) (by decide) (by decide) (by decide) ?_
          exact lc_set hB hld hb hi nxt
        · refine kw_tableIn hB Z_law_32 (off := 133) (tgt := 165) (by decide) (by decide) (by decide) (by decide) ?_
          exact lc_get hB hld hb hi nxt
        · refine kw_tableIn hB Z_law_32 (off := 166) (tgt := 198) (by decide) (by decide) (by decide) (by decide) ?_
          exact lc_join hB hld hb hi nxt
        · refine kw_tableIn hB Z_law_32 (off := 209) (tgt := 241) (by decide) (by decide) (by decide) (by decide) ?_
          exact lc_apply hB hld hb hi nxt
        · refine kw_tableIn hB Z_law_32 (off := 252) (tgt := 284) (by decide) (by decide) (by decide) (by decide) ?_
          exact lc_sink hB hld hb hi nxt
        · refine kw_tableIn hB Z_law_32 (off := 275) (tgt := 307) (by decide) (by decide) (by decide) (by decide) ?_
          exact lc_when hB hld hb hi nxt
        · refine kw_tableIn hB Z_law_32 (off := 318) (tgt := 350) (by decide) (by decide) (by decide) (by decide) ?_
          exact lc_other hB hld hb hi nxt
        · refine kw_tableIn hB Z_law_32 (off := 331) (tgt := 363) (by decide) (by decide) (by decide) (by decide) ?_
          exact lc_loop hB hld hb hi nxt
        · refine kw_tableIn hB Z_law_32 (off := 374) (tgt := 406) (by decide) (by decide) (by decide) (by decide) ?_
          exact lc_end hB hld hb hi nxt
        · refine kw_tableIn hB Z_law_32 (off := 387) (tgt := 419) (by decide) (by decide) (by decide) (by decide) ?_
          exact lc_clear hB hld hb hi nxt
        · refine kw_tableIn hB Z_law_32 (off := 400) (tgt := 432) (by decide) (by decide) (by decide) (by decide) ?_
          exact lc_analyse hB hld hb hi nxt
        · refine kw_tableIn hB Z_law_32 (off := 413) (tgt := 445) (by decide) (by decide) (by decide) (by decide) ?_
          exact lc_size hB hld hb hi nxt
        · refine kw_tableIn hB Z_law_32 (off := 436) (tgt := 468) (by decide) (by decide) (by decide) (by decide) ?_
          exact lc_accepts hB hld hb hi nxt
        · refine kw_tableIn hB Z_law_32 (off := 499) (tgt := 531) (by decide) (by decide) (by decide) (by decide) ?_
          exact lc_witness hB hld hb hi nxt
        · refine kw_tableIn hB Z_law_32 (off := 532) (tgt := 564) (by decide) (by decide) (by decide) (by decide) ?_
          exact lc_rounds hB hld hb hi nxt
        · refine kw_tableIn hB Z_law_32 (off := 555) (tgt := 587) (by decide) (by decide) (by decide) (by decide) ?_
          exact lc_give hB hld hb hi nxt
        · refine kw_tableIn hB Z_law_32 (off := 588) (tgt := 620) (by decide) (by decide) (by decide) (by decide) ?_
          exact lc_run hB hld hb hi nxt
        · refine kw_tableIn hB Z_law_32 (off := 611) (tgt := 643) (by decide) (by decide) (by decide) (by decide) ?_
          exact lc_ended hB hld hb hi nxt
        · refine kw_tableIn hB Z_law_32 (off := 624) (tgt := 656) (by decide) (by decide) (by decide) (by decide) ?_
          exact lc_passed hB hld hb hi nxt
        · refine kw_tableIn hB Z_law_32 (off := 648) (tgt := 680) (by decide) (by decide) (by decide) (by decide) ?_
          exact lc_place hB hld hb hi nxt
        · refine kw_tableIn hB Z_law_32 (off := 671) (tgt := 703) (by decide) (by decide) (by decide) (by decide) ?_
          exact lc_attack hB hld hb hi nxt
      · refine kw_tableOut hB Z_law_32 (tgt := 756) (Or.inr (by rw [nI_toInt (by omega)]; omega)) (by decide) ?_
        exact nxt X hb rfl
  refine kw_new hB Z_law_0 (ci := 9) (fs := [.null, .null, .null]) rfl ji_T jt_T jo_T (jm 84 (by decide +kernel) rfl) (jm 85 (by decide +kernel) rfl) (jm 69 (by decide +kernel) rfl) (by show ∀ j, j < 3 → defaultValue (jt_T j) = vp_V [.null, .null, .null] j; decide) (by decide) (by decide) ?_
  show Kk 3 [.ref 0, .retAddr 0, .retAddr 0, .retAddr 0] [.ref 1] [ja_z, .inr (9, [.null, .null, .null])] 1 3
  refine kw_dup hB Z_law_3 rfl ?_
  refine kw_callI hB Z_law_4 s_Z_9 im_T_init rfl rfl (As := []) (c_T_init' l D g) rfl (by decide) (Nat.le_of_ble_eq_true rfl) (by omega) (by omega) (fun r X1 hq hl => ?_)
  obtain ⟨rfl, hC, hz⟩ := hq
  have hl1 : X1.length = 145 := by rw [hl]; rfl
  refine kw_astore_n hB Z_law_7 (i := 1) rfl (by decide) rfl ?_
  refine kw_new hB Z_law_8 (ci := 10) (fs := [.int 0, .null, .null, .null, .null, .null, .null, .null, .null, .null, .int 0, .int 0, .null, .null, .null, .int 0, .null, .null, .int 0, .int 0, .int 0, .int 0, .int 0, .int 0, .int 0, .int 0, .null, .int 0, .null, .int 0, .null, .null, .int 0, .null, .null, .null, .null, .null, .int 0, .int 0, .null, .null]) rfl ji_M jt_M jo_M (jm 853 (by decide +kernel) rfl) (jm 854 (by decide +kernel) rfl) (jm 82 (by decide +kernel) rfl) (by show ∀ j, j < 42 → defaultValue (jt_M j) = vp_V [.int 0, .null, .null, .null, .null, .null, .null, .null, .null, .null, .int 0, .int 0, .null, .null, .null, .int 0, .null, .null, .int 0, .int 0, .int 0, .int 0, .int 0, .int 0, .int 0, .int 0, .null, .int 0, .null, .int 0, .null, .null, .int 0, .null, .null, .null, .null, .null, .int 0, .int 0, .null, .null] j; decide) (by decide) (by decide) ?_
  rw [hl1]
  refine kw_dup hB Z_law_11 rfl ?_
  refine kw_callI hB Z_law_12 s_Z_12 im_M_init rfl rfl (As := []) (c_M_init' l D g (A := X1) (q := 145) hl1) rfl (by decide) (Nat.le_of_ble_eq_true rfl) (by decide) (by decide) (fun r X2 hq2 hl2 => ?_)
  obtain ⟨rfl, rfl⟩ := hq2
  refine kw_astore_n hB Z_law_15 (i := 2) rfl (by decide) rfl ?_
  refine kw_iconst hB Z_law_16 (v := nI 0) (by decide) ?_
  refine kw_istore_n hB Z_law_17 (i := 3) rfl (by decide) rfl ?_
  exact loop 2049 0 (X1 ++ jcM 145) (by omega) (by omega) (.mk (hC.sub (fun k c e => by rw [List.getElem?_append_left (List.getElem?_eq_some_iff.mp e).1]; exact e)) (jMdl_0 hl1))
end JLW3
