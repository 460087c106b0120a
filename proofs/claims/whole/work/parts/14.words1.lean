-- Words: letters
def jsym (c : Nat) : Nat := (c + 1) / 2
def jtnt (c : Nat) : Bool := c % 2 == 0
def jlet (s : Nat) (t : Bool) : Nat := if t then 2 * s else 2 * s - 1
def jread (p c : Nat) : Nat := if p = 0 then (if jtnt c then 3 else if jsym c = 3 then 1 else 0) else if p = 1 then (if jsym c = 3 then (if jtnt c then 3 else 0) else if jsym c = 4 then 2 else 1) else if p = 2 then 1 else 3
def jimg (c f : Nat) : Nat := if f = 1 then (if jsym c = 3 then 0 else c) else if f = 2 then (if jsym c = 1 then c + 2 else c) else if jsym c = 3 ∨ jsym c = 4 then jlet 4 (jtnt c) * 16 ||| c else c
def jokw : Nat → Nat → Nat → Bool
  | 0, _, w => w == 0
  | n + 1, h, w => w == 0 || (decide (1 ≤ w % 16 ∧ w % 16 ≤ h) && jokw n h (w / 16))
theorem jb_f {b : Bool} (h : b.toNat = 0) : b = false := by cases b <;> first | rfl | cases h
theorem jb_t {b : Bool} (h : b.toNat ≠ 0) : b = true := by cases b <;> first | rfl | exact absurd rfl h
section JW1
variable (l : Launch) (D : va_G) (g : Nat × Nat) {X : ja_H}
set_option maxHeartbeats 4000000 in
set_option maxRecDepth 100000 in
theorem c_W_symbol {c : Nat} (hc : c < 2 ^ 30) : AMet l D g 0 0 0 m_W_symbol [.int (nI c)] X (fun r X' => r = some (.int (nI (jsym c))) ∧ X' = X) := by
  refine ja_metK (by decide) rfl (Nat.le_of_ble_eq_true rfl) fun K hB hF => ?_
  refine kw_iload_n hB W_symbol_0 rfl ?_
  refine kw_iconst hB W_symbol_1 (v := nI 1) (by decide) ?_
  refine kn_iadd hB W_symbol_2 ?_
  refine kw_iconst hB W_symbol_3 (v := nI 2) (by decide) ?_
  refine kn_idiv hB W_symbol_4 (by omega) (by decide) (by decide) ?_
  refine kw_iret hF rfl W_symbol_5 ?_ (by first | (simp [jLs_len]; done) | (simp [*]; done))
  exact ⟨rfl, rfl⟩
set_option maxHeartbeats 4000000 in
set_option maxRecDepth 100000 in
theorem c_W_isTainted {c : Nat} (hc : c < 2 ^ 31) : AMet l D g 0 0 0 m_W_isTainted [.int (nI c)] X (fun r X' => r = some (.int (nI (jtnt c).toNat)) ∧ X' = X) := by
  refine ja_metK (by decide) rfl (Nat.le_of_ble_eq_true rfl) fun K hB hF => ?_
  refine kw_iload_n hB W_isTainted_0 rfl ?_
  refine kw_iconst hB W_isTainted_1 (v := nI 2) (by decide) ?_
  refine kn_irem hB W_isTainted_2 (by omega) (by decide) (by decide) ?_
  refine kn_if_ne hB W_isTainted_3 (by omega) (fun h => ?_) (fun h => ?_)
  · refine kw_iconst hB W_isTainted_10 (v := nI 0) (by decide) ?_
    refine kw_zret hF rfl (by first | rfl | decide) W_isTainted_11 ?_ (by first | (simp [jLs_len]; done) | (simp [*]; done))
    exact ⟨by rw [show jtnt c = false by simp [jtnt]; omega]; rfl, rfl⟩
  · refine kw_iconst hB W_isTainted_6 (v := nI 1) (by decide) ?_
    refine kw_goto hB W_isTainted_7 ?_
    refine kw_zret hF rfl (by first | rfl | decide) W_isTainted_11 ?_ (by first | (simp [jLs_len]; done) | (simp [*]; done))
    exact ⟨by rw [show jtnt c = true by simp [jtnt]; omega]; rfl, rfl⟩
set_option maxHeartbeats 4000000 in
set_option maxRecDepth 100000 in
theorem c_W_letter {s : Nat} {t : Bool} (hs : 1 ≤ s) (hs2 : s < 2 ^ 30) : AMet l D g 0 0 0 m_W_letter [.int (nI s), .int (nI t.toNat)] X (fun r X' => r = some (.int (nI (jlet s t))) ∧ X' = X) := by
  refine ja_metK (by decide) rfl (Nat.le_of_ble_eq_true rfl) fun K hB hF => ?_
  refine kw_iload_n hB W_letter_0 rfl ?_
  refine kn_if_eq hB W_letter_1 (by cases t <;> decide) (fun h => ?_) (fun h => ?_)
  · refine kw_iconst hB W_letter_10 (v := nI 2) (by decide) ?_
    refine kw_iload_n hB W_letter_11 rfl ?_
    refine kn_imul hB W_letter_12 ?_
    refine kw_iconst hB W_letter_13 (v := nI 1) (by decide) ?_
    refine kn_isub hB W_letter_14 (by omega) ?_
    refine kw_iret hF rfl W_letter_15 ?_ (by first | (simp [jLs_len]; done) | (simp [*]; done))
    have ht : t = false := jb_f h
    exact ⟨by rw [ht]; rfl, rfl⟩
  · refine kw_iconst hB W_letter_4 (v := nI 2) (by decide) ?_
    refine kw_iload_n hB W_letter_5 rfl ?_
    refine kn_imul hB W_letter_6 ?_
    refine kw_goto hB W_letter_7 ?_
    refine kw_iret hF rfl W_letter_15 ?_ (by first | (simp [jLs_len]; done) | (simp [*]; done))
    have ht : t = true := jb_t h
    exact ⟨by rw [ht]; rfl, rfl⟩
set_option maxHeartbeats 4000000 in
set_option maxRecDepth 100000 in
theorem c_W_read {p c : Nat} (hp : p < 4) (hc : c < 2 ^ 30) : AMet l D g 1 0 0 m_W_read [.int (nI p), .int (nI c)] X (fun r X' => r = some (.int (nI (jread p c))) ∧ X' = X) := by
  refine ja_metK (by decide) rfl (Nat.le_of_ble_eq_true rfl) fun K hB hF => ?_
  refine kw_iload_n hB W_read_0 rfl ?_
  refine kw_callS hB W_read_1 s_W_39 st_W_symbol (As := [.int (nI c)]) (c_W_symbol l D g hc) rfl (by decide) (Nat.le_of_ble_eq_true rfl) (by omega) (by omega) (fun r X1 hq hl => ?_)
  obtain ⟨rfl, hxeq⟩ := hq
  obtain rfl := hxeq.symm
  refine kw_istore_n hB W_read_4 rfl (by decide) rfl ?_
  refine kw_iload_n hB W_read_5 rfl ?_
  -- tableswitch (.tableswitch 77 0 2 #[26, 46, 75]) at 6
  have hpi : (nI p).toInt = (p : Int) := nI_toInt (by omega)
  have hsy : jsym c < 2 ^ 30 := by unfold jsym; omega
  rcases (by omega : p = 0 ∨ p = 1 ∨ p = 2 ∨ p = 3) with rfl | rfl | rfl | rfl
  · refine kw_tableIn hB W_read_6 (off := 26) (tgt := 32) (by rw [hpi]; decide) (by rw [hpi]; decide) (by rw [hpi]; rfl) rfl ?_
    refine kw_iload_n hB W_read_32 rfl ?_
    refine kw_callS hB W_read_33 s_W_43 st_W_isTainted (As := [.int (nI c)]) (c_W_isTainted l D g (by omega)) rfl (by decide) (Nat.le_of_ble_eq_true rfl) (by omega) (by omega) (fun r X1 hq hl => ?_)
    obtain ⟨rfl, hxeq⟩ := hq
    obtain rfl := hxeq.symm
    refine kn_if_eq hB W_read_36 (by cases jtnt c <;> decide) (fun h => ?_) (fun h => ?_)
    · have ht : jtnt c = false := jb_f h
      refine kw_iload_n hB W_read_41 rfl ?_
      refine kw_iconst hB W_read_42 (v := nI 3) (by decide) ?_
      refine kn_icmp_ne hB W_read_43 (by omega) (by decide) (fun h3 => ?_) (fun h3 => ?_)
      · refine kw_iconst hB W_read_50 (v := nI 0) (by decide) ?_
        refine kw_iret hF rfl W_read_51 ?_ (by first | (simp [jLs_len]; done) | (simp [*]; done))
        exact ⟨by simp [jread, ht, h3], rfl⟩
      · refine kw_iconst hB W_read_46 (v := nI 1) (by decide) ?_
        refine kw_goto hB W_read_47 ?_
        refine kw_iret hF rfl W_read_51 ?_ (by first | (simp [jLs_len]; done) | (simp [*]; done))
        exact ⟨by simp [jread, ht, h3], rfl⟩
    · have ht : jtnt c = true := jb_t h
      refine kw_iconst hB W_read_39 (v := nI 3) (by decide) ?_
      refine kw_iret hF rfl W_read_40 ?_ (by first | (simp [jLs_len]; done) | (simp [*]; done))
      exact ⟨by simp [jread, ht], rfl⟩
  · refine kw_tableIn hB W_read_6 (off := 46) (tgt := 52) (by rw [hpi]; decide) (by rw [hpi]; decide) (by rw [hpi]; rfl) rfl ?_
    refine kw_iload_n hB W_read_52 rfl ?_
    refine kw_iconst hB W_read_53 (v := nI 3) (by decide) ?_
    refine kn_icmp_ne hB W_read_54 (by omega) (by decide) (fun h3 => ?_) (fun h3 => ?_)
    · refine kw_iload_n hB W_read_70 rfl ?_
      refine kw_iconst hB W_read_71 (v := nI 4) (by decide) ?_
      refine kn_icmp_ne hB W_read_72 (by omega) (by decide) (fun h4 => ?_) (fun h4 => ?_)
      · refine kw_iconst hB W_read_79 (v := nI 1) (by decide) ?_
        refine kw_iret hF rfl W_read_80 ?_ (by first | (simp [jLs_len]; done) | (simp [*]; done))
        exact ⟨by simp [jread, h3, h4], rfl⟩
      · refine kw_iconst hB W_read_75 (v := nI 2) (by decide) ?_
        refine kw_goto hB W_read_76 ?_
        refine kw_iret hF rfl W_read_80 ?_ (by first | (simp [jLs_len]; done) | (simp [*]; done))
        exact ⟨by simp [jread, h3, h4], rfl⟩
    · refine kw_iload_n hB W_read_57 rfl ?_
      refine kw_callS hB W_read_58 s_W_43 st_W_isTainted (As := [.int (nI c)]) (c_W_isTainted l D g (by omega)) rfl (by decide) (Nat.le_of_ble_eq_true rfl) (by omega) (by omega) (fun r X1 hq hl => ?_)
      obtain ⟨rfl, hxeq⟩ := hq
      obtain rfl := hxeq.symm
      refine kn_if_eq hB W_read_61 (by cases jtnt c <;> decide) (fun h => ?_) (fun h => ?_)
      · have ht : jtnt c = false := jb_f h
        refine kw_iconst hB W_read_68 (v := nI 0) (by decide) ?_
        refine kw_iret hF rfl W_read_69 ?_ (by first | (simp [jLs_len]; done) | (simp [*]; done))
        exact ⟨by simp [jread, h3, ht], rfl⟩
      · have ht : jtnt c = true := jb_t h
        refine kw_iconst hB W_read_64 (v := nI 3) (by decide) ?_
        refine kw_goto hB W_read_65 ?_
        refine kw_iret hF rfl W_read_69 ?_ (by first | (simp [jLs_len]; done) | (simp [*]; done))
        exact ⟨by simp [jread, h3, ht], rfl⟩
  · refine kw_tableIn hB W_read_6 (off := 75) (tgt := 81) (by rw [hpi]; decide) (by rw [hpi]; decide) (by rw [hpi]; rfl) rfl ?_
    refine kw_iconst hB W_read_81 (v := nI 1) (by decide) ?_
    refine kw_iret hF rfl W_read_82 ?_ (by first | (simp [jLs_len]; done) | (simp [*]; done))
    exact ⟨rfl, rfl⟩
  · refine kw_tableOut hB W_read_6 (tgt := 83) (by rw [hpi]; decide) rfl ?_
    refine kw_iconst hB W_read_83 (v := nI 3) (by decide) ?_
    refine kw_iret hF rfl W_read_84 ?_ (by first | (simp [jLs_len]; done) | (simp [*]; done))
    exact ⟨rfl, rfl⟩
set_option maxHeartbeats 4000000 in
set_option maxRecDepth 100000 in
theorem c_W_image {c f : Nat} (hc : 1 ≤ c) (hc8 : c ≤ 8) (hf : f < 2 ^ 31) : AMet l D g 1 0 0 m_W_image [.int (nI c), .int (nI f)] X (fun r X' => r = some (.int (nI (jimg c f))) ∧ X' = X) := by
  refine ja_metK (by decide) rfl (Nat.le_of_ble_eq_true rfl) fun K hB hF => ?_
  have hsy : jsym c < 2 ^ 30 := by unfold jsym; omega
  refine kw_iload_n hB W_image_0 rfl ?_
  refine kw_callS hB W_image_1 s_W_39 st_W_symbol (As := [.int (nI c)]) (c_W_symbol l D g (by omega)) rfl (by decide) (Nat.le_of_ble_eq_true rfl) (by omega) (by omega) (fun r X1 hq hl => ?_)
  obtain ⟨rfl, hxeq⟩ := hq
  obtain rfl := hxeq.symm
  refine kw_istore_n hB W_image_4 rfl (by decide) rfl ?_
  refine kw_iload_n hB W_image_5 rfl ?_
  refine kw_iconst hB W_image_6 (v := nI 1) (by decide) ?_
  refine kn_icmp_ne hB W_image_7 hf (by decide) (fun h1 => ?_) (fun h1 => ?_)
  · refine kw_iload_n hB W_image_21 rfl ?_
    refine kw_iconst hB W_image_22 (v := nI 2) (by decide) ?_
    refine kn_icmp_ne hB W_image_23 hf (by decide) (fun h2 => ?_) (fun h2 => ?_)
    · have fin : ∀ b : Bool, (b = true ↔ jsym c = 3 ∨ jsym c = 4) → K 54 [.int (nI c), .int (nI f), .int (nI (jsym c)), .retAddr 0] [.int (nI b.toNat)] X 0 0 := by
        intro b hb
        refine kw_istore_n hB W_image_54 rfl (by decide) rfl ?_
        refine kw_iload_n hB W_image_55 rfl ?_
        refine kn_if_eq hB W_image_56 (by cases b <;> decide) (fun h => ?_) (fun h => ?_)
        · have ht : b = false := jb_f h
          have hn : ¬ (jsym c = 3 ∨ jsym c = 4) := fun z => by have := hb.mpr z; rw [ht] at this; cases this
          refine kw_iload_n hB W_image_74 rfl ?_
          refine kw_iret hF rfl W_image_75 ?_ (by first | (simp [jLs_len]; done) | (simp [*]; done))
          exact ⟨by unfold jimg; rw [if_neg h1, if_neg h2, if_neg hn], rfl⟩
        · have ht : b = true := jb_t h
          have hy := hb.mp ht
          refine kw_iconst hB W_image_59 (v := nI 4) (by decide) ?_
          refine kw_iload_n hB W_image_60 rfl ?_
          refine kw_callS hB W_image_61 s_W_43 st_W_isTainted (As := [.int (nI c)]) (c_W_isTainted l D g (by omega)) rfl (by decide) (Nat.le_of_ble_eq_true rfl) (by omega) (by omega) (fun r X1 hq hl => ?_)
          obtain ⟨rfl, hxeq⟩ := hq
          obtain rfl := hxeq.symm
          refine kw_callS hB W_image_64 s_W_25 st_W_letter (As := [.int (nI 4), .int (nI (jtnt c).toNat)]) (c_W_letter l D g (by decide) (by decide)) rfl (by decide) (Nat.le_of_ble_eq_true rfl) (by omega) (by omega) (fun r X1 hq hl => ?_)
          obtain ⟨rfl, hxeq⟩ := hq
          obtain rfl := hxeq.symm
          refine kw_iconst hB W_image_67 (v := nI 4) (by decide) ?_
          refine kn_ishl hB W_image_68 (by decide) (by unfold jlet; split <;> decide) ?_
          refine kw_iload_n hB W_image_69 rfl ?_
          refine kn_ior hB W_image_70 ?_
          refine kw_goto hB W_image_71 ?_
          refine kw_iret hF rfl W_image_75 ?_ (by first | (simp [jLs_len]; done) | (simp [*]; done))
          exact ⟨by unfold jimg; rw [if_neg h1, if_neg h2, if_pos hy], rfl⟩
      refine kw_iload_n hB W_image_39 rfl ?_
      refine kw_iconst hB W_image_40 (v := nI 3) (by decide) ?_
      refine kn_icmp_eq hB W_image_41 (by omega) (by decide) (fun h3 => ?_) (fun h3 => ?_)
      · refine kw_iconst hB W_image_49 (v := nI 1) (by decide) ?_
        refine kw_goto hB W_image_50 ?_
        exact fin true (by simp [h3])
      · refine kw_iload_n hB W_image_44 rfl ?_
        refine kw_iconst hB W_image_45 (v := nI 4) (by decide) ?_
        refine kn_icmp_ne hB W_image_46 (by omega) (by decide) (fun h4 => ?_) (fun h4 => ?_)
        · refine kw_iconst hB W_image_53 (v := nI 0) (by decide) ?_
          exact fin false (by simp [h3, h4])
        · refine kw_iconst hB W_image_49 (v := nI 1) (by decide) ?_
          refine kw_goto hB W_image_50 ?_
          exact fin true (by simp [h4])
    · refine kw_iload_n hB W_image_26 rfl ?_
      refine kw_iconst hB W_image_27 (v := nI 1) (by decide) ?_
      refine kn_icmp_ne hB W_image_28 (by omega) (by decide) (fun h3 => ?_) (fun h3 => ?_)
      · refine kw_iload_n hB W_image_37 rfl ?_
        refine kw_iret hF rfl W_image_38 ?_ (by first | (simp [jLs_len]; done) | (simp [*]; done))
        exact ⟨by unfold jimg; rw [if_neg h1, if_pos h2, if_neg h3], rfl⟩
      · refine kw_iload_n hB W_image_31 rfl ?_
        refine kw_iconst hB W_image_32 (v := nI 2) (by decide) ?_
        refine kn_iadd hB W_image_33 ?_
        refine kw_goto hB W_image_34 ?_
        refine kw_iret hF rfl W_image_38 ?_ (by first | (simp [jLs_len]; done) | (simp [*]; done))
        exact ⟨by unfold jimg; rw [if_neg h1, if_pos h2, if_pos h3], rfl⟩
  · refine kw_iload_n hB W_image_10 rfl ?_
    refine kw_iconst hB W_image_11 (v := nI 3) (by decide) ?_
    refine kn_icmp_ne hB W_image_12 (by omega) (by decide) (fun h3 => ?_) (fun h3 => ?_)
    · refine kw_iload_n hB W_image_19 rfl ?_
      refine kw_iret hF rfl W_image_20 ?_ (by first | (simp [jLs_len]; done) | (simp [*]; done))
      exact ⟨by unfold jimg; rw [if_pos h1, if_neg h3], rfl⟩
    · refine kw_iconst hB W_image_15 (v := nI 0) (by decide) ?_
      refine kw_goto hB W_image_16 ?_
      refine kw_iret hF rfl W_image_20 ?_ (by first | (simp [jLs_len]; done) | (simp [*]; done))
      exact ⟨by unfold jimg; rw [if_pos h1, if_pos h3], rfl⟩
end JW1
