-- the model: applied
def jeo (o : Option Nat) : Int64 := match o with
  | none => -1
  | some a => lN a
def jo60 (o : Option Nat) : Prop := ∀ a, o = some a → a < 2 ^ 60
section JMR3
variable (l : Launch) (D : va_G) (g : Nat × Nat) {X : ja_H}
set_option maxHeartbeats 8000000 in
set_option maxRecDepth 100000 in
theorem c_M_applied {f w : Nat} (hf : f < 3) (hj : jwv w) : AMet l D g 2 0 0 m_M_applied [.int (nI f), .long (lN w)] X (fun r X' => r = some (.long (jeo (jop (japp f w)))) ∧ X' = X) := by
  have h60 : w < 2 ^ 60 := hj.2
  have h15 : jlen w ≤ 15 := jlen_le (show w < 16 ^ 15 from h60)
  refine ja_metK (by decide) rfl (Nat.le_of_ble_eq_true rfl) fun K hB hF => ?_
  have b131 : ∀ (o : Option Nat) (k x y : Nat) (q lf : Bool), jo60 o → y < 16 → (∀ (W : Option Nat), W = (if lf then o else o.bind (fun a => if 2 ^ 56 ≤ a then none else some (16 * a + y))) → K 175 [.int (nI f), .long (lN w), .retAddr 0, .long (jeo W), .retAddr 0, .int (nI (jlen w)), .int (nI k), .int (nI x), .int (nI q.toNat), .int (nI lf.toNat), .int (nI y)] [] X 0 0) → K 131 [.int (nI f), .long (lN w), .retAddr 0, .long (jeo o), .retAddr 0, .int (nI (jlen w)), .int (nI k), .int (nI x), .int (nI q.toNat), .int (nI lf.toNat), .int (nI y)] [] X 0 0 := by
    intro o k x y q lf ho hy kk
    refine kw_iload hB M_applied_131 rfl ?_
    refine kn_if_ne hB M_applied_133 (by cases lf <;> decide) (fun z => ?_) (fun z => ?_)
    · exact kk o (by rw [jb_t z]; rfl)
    have hlf := jb_f z
    have neg : (o.bind (fun a => if 2 ^ 56 ≤ a then none else some (16 * a + y))) = none → K 159 [.int (nI f), .long (lN w), .retAddr 0, .long (jeo o), .retAddr 0, .int (nI (jlen w)), .int (nI k), .int (nI x), .int (nI q.toNat), .int (nI lf.toNat), .int (nI y)] [] X 0 0 := by
      intro hn
      refine kw_ldc2 hB M_applied_159 (v := -1) (jm 1232 (by decide +kernel) rfl) ?_
      refine kw_goto hB M_applied_162 ?_
      refine kw_lstore_n hB M_applied_174 rfl (by decide) rfl ?_
      exact kk none (by rw [hlf, hn]; rfl)
    cases o with
    | none =>
      refine kw_lload_n hB M_applied_136 rfl ?_
      refine kw_ldc2 hB M_applied_137 (v := 72057594037927936) (jm 1231 (by decide +kernel) rfl) ?_
      refine kw_lcmp hB M_applied_140 (kw_if_lt hB M_applied_141 (fun _ => ?_) (fun z => absurd ((lg_cmp_lt _ _).mpr (by decide)) z))
      refine kw_lload_n hB M_applied_153 rfl ?_
      refine kw_lconst hB M_applied_154 (v := 0) (by decide) ?_
      refine kw_lcmp hB M_applied_155 (kw_if_ge hB M_applied_156 (fun z => absurd ((lg_cmp_ge _ _).mp z) (by decide)) (fun _ => neg rfl))
    | some a =>
      have ha := ho a rfl
      refine kw_lload_n hB M_applied_136 rfl ?_
      refine kw_ldc2 hB M_applied_137 (v := 72057594037927936) (jm 1231 (by decide +kernel) rfl) ?_
      refine kl_cmp_lt hB M_applied_140 M_applied_141 (a := a) (b := 2 ^ 56) (by omega) (by decide) (fun z2 => ?_) (fun z2 => ?_)
      · refine kw_lload_n hB M_applied_153 rfl ?_
        refine kw_lconst hB M_applied_154 (v := lN 0) (by decide) ?_
        refine kl_cmp_ge hB M_applied_155 M_applied_156 (a := a) (by omega) (by decide) (fun _ => ?_) (fun z3 => absurd z3 (by omega))
        refine kw_ldc2 hB M_applied_165 (v := 16) (jm 1192 (by decide +kernel) rfl) ?_
        refine kw_lload_n hB M_applied_168 rfl ?_
        refine kl_lmul hB M_applied_169 (a := 16) (b := a) ?_
        refine kw_iload hB M_applied_170 rfl ?_
        refine kl_i2l hB M_applied_172 (by omega) ?_
        refine kl_ladd hB M_applied_173 ?_
        refine kw_lstore_n hB M_applied_174 rfl (by decide) rfl ?_
        refine kk (some (16 * a + y)) ?_
        rw [hlf]
        show some (16 * a + y) = if 2 ^ 56 ≤ a then none else some (16 * a + y)
        rw [if_neg (by omega)]
      · have hl15 : jlen a = 15 := by
          have h1 := jlen_56.mp z2
          have h2 := jlen_le (show a < 16 ^ 15 from ha)
          omega
        refine kw_lload_n hB M_applied_144 rfl ?_
        refine kw_callS hB M_applied_145 s_M_267 st_M_lengthOf (As := [.long (lN a)]) (c_M_lengthOf l D g (by omega)) rfl (by decide) (Nat.le_of_ble_eq_true rfl) (by omega) (by omega) (fun r X1 hq hl => ?_)
        obtain ⟨rfl, hxeq⟩ := hq
        obtain rfl := hxeq.symm
        rw [hl15]
        refine kw_bipush hB M_applied_148 (v := nI 15) (by decide) ?_
        refine kn_icmp_eq hB M_applied_150 (by decide) (by decide) (fun _ => neg ?_) (fun z => absurd rfl z)
        show (if 2 ^ 56 ≤ a then none else some (16 * a + y)) = none
        rw [if_pos z2]
  have b92 : ∀ (o : Option Nat) (k x : Nat) (q : Bool) (u9 u10 : Value), jo60 o → 1 ≤ x → x ≤ 8 → (q = true ↔ x = 5 ∨ x = 6) → (∀ (W : Option Nat) (u9 u10 : Value), W = (if f = 1 ∧ (x = 5 ∨ x = 6) then o else o.bind (fun a => if 2 ^ 56 ≤ a then none else some (16 * a + (if f = 2 ∧ x < 3 then x + 2 else x)))) → K 175 [.int (nI f), .long (lN w), .retAddr 0, .long (jeo W), .retAddr 0, .int (nI (jlen w)), .int (nI k), .int (nI x), .int (nI q.toNat), u9, u10] [] X 0 0) → K 92 [.int (nI f), .long (lN w), .retAddr 0, .long (jeo o), .retAddr 0, .int (nI (jlen w)), .int (nI k), .int (nI x), .int (nI q.toNat), u9, u10] [] X 0 0 := by
    intro o k x q u9 u10 ho x1 x8 hq kk
    have b129 : ∀ (lf : Bool) (y : Nat) (u : Value), (lf = true ↔ f = 1 ∧ (x = 5 ∨ x = 6)) → y = (if f = 2 ∧ x < 3 then x + 2 else x) → K 129 [.int (nI f), .long (lN w), .retAddr 0, .long (jeo o), .retAddr 0, .int (nI (jlen w)), .int (nI k), .int (nI x), .int (nI q.toNat), .int (nI lf.toNat), u] [.int (nI y)] X 0 0 := by
      intro lf y u hlf hy
      refine kw_istore hB M_applied_129 (by decide) rfl ?_
      refine b131 o k x y q lf ho (by rw [hy]; split <;> omega) (fun W hW => kk W _ _ ?_)
      rw [hW, hy]
      cases lf with
      | true => rw [if_pos rfl, if_pos (hlf.mp rfl)]
      | false => rw [if_neg (by decide), if_neg (show ¬ (f = 1 ∧ (x = 5 ∨ x = 6)) from fun z => by have := hlf.mpr z; cases this)]
    have b109 : ∀ (lf : Bool) (u : Value), (lf = true ↔ f = 1 ∧ (x = 5 ∨ x = 6)) → K 109 [.int (nI f), .long (lN w), .retAddr 0, .long (jeo o), .retAddr 0, .int (nI (jlen w)), .int (nI k), .int (nI x), .int (nI q.toNat), .int (nI lf.toNat), u] [] X 0 0 := by
      intro lf u hlf
      refine kw_iload_n hB M_applied_109 rfl ?_
      refine kw_iconst hB M_applied_110 (v := nI 2) (by decide) ?_
      refine kn_icmp_ne hB M_applied_111 (by omega) (by decide) (fun z => ?_) (fun z => ?_)
      · refine kw_iload hB M_applied_127 rfl ?_
        exact b129 lf x u hlf (by rw [if_neg (fun y => z y.1)])
      · refine kw_iload hB M_applied_114 rfl ?_
        refine kw_iconst hB M_applied_116 (v := nI 3) (by decide) ?_
        refine kn_icmp_ge hB M_applied_117 (by omega) (by decide) (fun z2 => ?_) (fun z2 => ?_)
        · refine kw_iload hB M_applied_127 rfl ?_
          exact b129 lf x u hlf (by rw [if_neg (fun y => by omega)])
        · refine kw_iload hB M_applied_120 rfl ?_
          refine kw_iconst hB M_applied_122 (v := nI 2) (by decide) ?_
          refine kn_iadd hB M_applied_123 ?_
          refine kw_goto hB M_applied_124 ?_
          exact b129 lf (x + 2) u hlf (by rw [if_pos ⟨z, z2⟩])
    have nol : ¬ (f = 1 ∧ (x = 5 ∨ x = 6)) → K 106 [.int (nI f), .long (lN w), .retAddr 0, .long (jeo o), .retAddr 0, .int (nI (jlen w)), .int (nI k), .int (nI x), .int (nI q.toNat), u9, u10] [] X 0 0 := by
      intro hno
      refine kw_iconst hB M_applied_106 (v := nI 0) (by decide) ?_
      refine kw_istore hB M_applied_107 (by decide) rfl ?_
      exact b109 false u10 ⟨fun z => (by cases z), fun z => absurd z hno⟩
    refine kw_iload_n hB M_applied_92 rfl ?_
    refine kw_iconst hB M_applied_93 (v := nI 1) (by decide) ?_
    refine kn_icmp_ne hB M_applied_94 (by omega) (by decide) (fun z => nol (fun y => z y.1)) (fun z => ?_)
    refine kw_iload hB M_applied_97 rfl ?_
    refine kn_if_eq hB M_applied_99 (by cases q <;> decide) (fun z2 => nol (fun y => by have := hq.mpr y.2; rw [jb_f z2] at this; cases this)) (fun z2 => ?_)
    refine kw_iconst hB M_applied_102 (v := nI 1) (by decide) ?_
    refine kw_goto hB M_applied_103 ?_
    refine kw_istore hB M_applied_107 (by decide) rfl ?_
    exact b109 true u10 ⟨fun _ => ⟨z, hq.mp (jb_t z2)⟩, fun _ => rfl⟩
  have b46 : ∀ (o : Option Nat) (k x : Nat) (q : Bool) (u9 u10 : Value), jo60 o → 1 ≤ x → x ≤ 8 → (q = true ↔ x = 5 ∨ x = 6) → (∀ (u9 u10 : Value), K 175 [.int (nI f), .long (lN w), .retAddr 0, .long (jeo (jstp f x o)), .retAddr 0, .int (nI (jlen w)), .int (nI k), .int (nI x), .int (nI q.toNat), u9, u10] [] X 0 0) → K 46 [.int (nI f), .long (lN w), .retAddr 0, .long (jeo o), .retAddr 0, .int (nI (jlen w)), .int (nI k), .int (nI x), .int (nI q.toNat), u9, u10] [] X 0 0 := by
    intro o k x q u9 u10 ho x1 x8 hq kk
    have pass : ¬ (f = 0 ∧ 4 < x) → K 92 [.int (nI f), .long (lN w), .retAddr 0, .long (jeo o), .retAddr 0, .int (nI (jlen w)), .int (nI k), .int (nI x), .int (nI q.toNat), u9, u10] [] X 0 0 := by
      intro hno
      refine b92 o k x q u9 u10 ho x1 x8 hq (fun W v9 v10 hW => ?_)
      have : W = jstp f x o := by rw [hW]; unfold jstp; simp only [hno, if_false]
      rw [this]; exact kk v9 v10
    refine kw_iload_n hB M_applied_46 rfl ?_
    refine kn_if_ne hB M_applied_47 (by omega) (fun z => pass (fun y => z y.1)) (fun z => ?_)
    refine kw_iload hB M_applied_50 rfl ?_
    refine kw_iconst hB M_applied_52 (v := nI 4) (by decide) ?_
    refine kn_icmp_le hB M_applied_53 (by omega) (by decide) (fun z2 => pass (fun y => by omega)) (fun z2 => ?_)
    have hyes : f = 0 ∧ 4 < x := ⟨z, z2⟩
    have go : ∀ o1, o1 = o.bind (fun a => if 2 ^ 56 ≤ a then none else some (16 * a + (8 - x % 2))) → K 91 [.int (nI f), .long (lN w), .retAddr 0, .long (jeo o), .retAddr 0, .int (nI (jlen w)), .int (nI k), .int (nI x), .int (nI q.toNat), u9, u10] [.long (jeo o1)] X 0 0 := by
      intro o1 h1
      refine kw_lstore_n hB M_applied_91 rfl (by decide) rfl ?_
      have ho1 : jo60 o1 := fun a e => by
        rw [h1] at e
        cases o with
        | none => cases e
        | some b =>
          have e : (if 2 ^ 56 ≤ b then none else some (16 * b + (8 - x % 2))) = some a := e
          split at e
          · cases e
          · have := Option.some.inj e; omega
      refine b92 o1 k x q u9 u10 ho1 x1 x8 hq (fun W v9 v10 hW => ?_)
      have : W = jstp f x o := by rw [hW, h1]; unfold jstp; simp only [hyes, and_self, if_true]
      rw [this]; exact kk v9 v10
    cases o with
    | none =>
      refine kw_lload_n hB M_applied_56 rfl ?_
      refine kw_ldc2 hB M_applied_57 (v := 72057594037927936) (jm 1231 (by decide +kernel) rfl) ?_
      refine kw_lcmp hB M_applied_60 (kw_if_ge hB M_applied_61 (fun z => absurd ((lg_cmp_ge _ _).mp z) (by decide)) (fun _ => ?_))
      refine kw_lload_n hB M_applied_64 rfl ?_
      refine kw_lconst hB M_applied_65 (v := 0) (by decide) ?_
      refine kw_lcmp hB M_applied_66 (kw_if_ge hB M_applied_67 (fun z => absurd ((lg_cmp_ge _ _).mp z) (by decide)) (fun _ => ?_))
      refine kw_ldc2 hB M_applied_70 (v := -1) (jm 1232 (by decide +kernel) rfl) ?_
      refine kw_goto hB M_applied_73 ?_
      exact go none rfl
    | some a =>
      have ha := ho a rfl
      refine kw_lload_n hB M_applied_56 rfl ?_
      refine kw_ldc2 hB M_applied_57 (v := 72057594037927936) (jm 1231 (by decide +kernel) rfl) ?_
      refine kl_cmp_ge hB M_applied_60 M_applied_61 (a := a) (b := 2 ^ 56) (by omega) (by decide) (fun z3 => ?_) (fun z3 => ?_)
      · refine kw_ldc2 hB M_applied_70 (v := -1) (jm 1232 (by decide +kernel) rfl) ?_
        refine kw_goto hB M_applied_73 ?_
        exact go none (by show none = if 2 ^ 56 ≤ a then none else some (16 * a + (8 - x % 2)); rw [if_pos z3])
      · refine kw_lload_n hB M_applied_64 rfl ?_
        refine kw_lconst hB M_applied_65 (v := lN 0) (by decide) ?_
        refine kl_cmp_ge hB M_applied_66 M_applied_67 (a := a) (by omega) (by decide) (fun _ => ?_) (fun z => absurd z (by omega))
        refine kw_ldc2 hB M_applied_76 (v := 16) (jm 1192 (by decide +kernel) rfl) ?_
        refine kw_lload_n hB M_applied_79 rfl ?_
        refine kl_lmul hB M_applied_80 (a := 16) (b := a) ?_
        refine kw_ldc2 hB M_applied_81 (v := 8) (jm 1193 (by decide +kernel) rfl) ?_
        refine kl_ladd hB M_applied_84 (b := 8) ?_
        refine kw_iload hB M_applied_85 rfl ?_
        refine kw_iconst hB M_applied_87 (v := nI 2) (by decide) ?_
        refine kn_irem hB M_applied_88 (by omega) (by decide) (by decide) ?_
        refine kl_i2l hB M_applied_89 (by omega) ?_
        refine kl_lsub hB M_applied_90 (by omega) ?_
        refine go (some (16 * a + 8 - x % 2)) ?_
        show some (16 * a + 8 - x % 2) = if 2 ^ 56 ≤ a then none else some (16 * a + (8 - x % 2))
        rw [if_neg (by omega), show 16 * a + 8 - x % 2 = 16 * a + (8 - x % 2) by omega]
  have o60 : ∀ v, jo60 (jop (japp f v)) := fun v a e => by
    unfold jop at e
    split at e
    · cases e
    · rename_i h
      rw [← Option.some.inj e]
      exact (japp_ok f v).resolve_left h
  have loop : ∀ p k (u7 u8 u9 u10 : Value), k + p = jlen w → K 11 [.int (nI f), .long (lN w), .retAddr 0, .long (jeo (jop (japp f (w / 16 ^ (jlen w - k))))), .retAddr 0, .int (nI (jlen w)), .int (nI k), u7, u8, u9, u10] [] X 0 0 := by
    intro p
    induction p with
    | zero =>
      intro k u7 u8 u9 u10 hk
      have hk : k = jlen w := by omega
      subst hk
      refine kw_iload hB M_applied_11 rfl ?_
      refine kw_iload hB M_applied_13 rfl ?_
      refine kn_icmp_ge hB M_applied_15 (by omega) (by omega) (fun _ => ?_) (fun z => absurd z (by omega))
      refine kw_lload_n hB M_applied_181 rfl ?_
      refine kw_lret hF rfl M_applied_182 ⟨?_, rfl⟩ (by simp)
      rw [Nat.sub_self, Nat.pow_zero, Nat.div_one]
    | succ p ih =>
      intro k u7 u8 u9 u10 hk
      have hd := hj.dig (show k < jlen w by omega)
      have hne := jtop_ne (show k < jlen w by omega)
      obtain ⟨t1, t2⟩ := jtop (w := w) (n := jlen w) (i := k) (by omega)
      have step : jstp f (jdig w (jlen w) k) (jop (japp f (w / 16 ^ (jlen w - k)))) = jop (japp f (w / 16 ^ (jlen w - (k + 1)))) := by
        rw [japp_s f hne, t1, t2]
        by_cases ov : japp f (w / 16 ^ (jlen w - k)) = jOV
        · rw [if_pos ov, ov]
          have : jop jOV = none := by unfold jop; rw [if_pos rfl]
          rw [this]
          unfold jstp
          split <;> split <;> rfl
        · rw [if_neg ov]
          have : jop (japp f (w / 16 ^ (jlen w - k))) = some (japp f (w / 16 ^ (jlen w - k))) := by unfold jop; rw [if_neg ov]
          rw [this]
          exact jstp_ok hf hd.1 hd.2 ((japp_ok f _).resolve_left ov)
      refine kw_iload hB M_applied_11 rfl ?_
      refine kw_iload hB M_applied_13 rfl ?_
      refine kn_icmp_ge hB M_applied_15 (by omega) (by omega) (fun z => absurd z (by omega)) (fun _ => ?_)
      refine kw_lload_n hB M_applied_18 rfl ?_
      refine kw_iload hB M_applied_19 rfl ?_
      refine kw_callS hB M_applied_21 s_M_277 st_M_letter (As := [.long (lN w), .int (nI k)]) (c_M_letter l D g h60 (by omega)) rfl (by decide) (Nat.le_of_ble_eq_true rfl) (by omega) (by omega) (fun r X1 hq hl => ?_)
      obtain ⟨rfl, hxeq⟩ := hq
      obtain rfl := hxeq.symm
      generalize hx : jdig w (jlen w) k = x at hd step
      have nx : ∀ (q : Bool), (q = true ↔ x = 5 ∨ x = 6) → K 46 [.int (nI f), .long (lN w), .retAddr 0, .long (jeo (jop (japp f (w / 16 ^ (jlen w - k))))), .retAddr 0, .int (nI (jlen w)), .int (nI k), .int (nI x), .int (nI q.toNat), u9, u10] [] X 0 0 := by
        intro q hq
        refine b46 _ k x q u9 u10 (o60 _) hd.1 hd.2 hq (fun v9 v10 => ?_)
        rw [step]
        refine kn_iinc hB M_applied_175 rfl (by decide) rfl ?_
        refine kw_goto hB M_applied_178 ?_
        exact ih (k + 1) _ _ _ _ (by omega)
      refine kw_istore hB M_applied_24 (by decide) rfl ?_
      refine kw_iload hB M_applied_26 rfl ?_
      refine kw_iconst hB M_applied_28 (v := nI 5) (by decide) ?_
      refine kn_icmp_eq hB M_applied_29 (by omega) (by decide) (fun z => ?_) (fun z => ?_)
      · refine kw_iconst hB M_applied_39 (v := nI 1) (by decide) ?_
        refine kw_goto hB M_applied_40 ?_
        refine kw_istore hB M_applied_44 (by decide) rfl ?_
        exact nx true ⟨fun _ => Or.inl z, fun _ => rfl⟩
      · refine kw_iload hB M_applied_32 rfl ?_
        refine kw_bipush hB M_applied_34 (v := nI 6) (by decide) ?_
        refine kn_icmp_ne hB M_applied_36 (by omega) (by decide) (fun z2 => ?_) (fun z2 => ?_)
        · refine kw_iconst hB M_applied_43 (v := nI 0) (by decide) ?_
          refine kw_istore hB M_applied_44 (by decide) rfl ?_
          exact nx false ⟨fun y => (by cases y), fun y => by omega⟩
        · refine kw_iconst hB M_applied_39 (v := nI 1) (by decide) ?_
          refine kw_goto hB M_applied_40 ?_
          refine kw_istore hB M_applied_44 (by decide) rfl ?_
          exact nx true ⟨fun _ => Or.inr z2, fun _ => rfl⟩
  refine kw_lconst hB M_applied_0 (v := lN 0) (by decide) ?_
  refine kw_lstore_n hB M_applied_1 rfl (by decide) rfl ?_
  refine kw_lload_n hB M_applied_2 rfl ?_
  refine kw_callS hB M_applied_3 s_M_267 st_M_lengthOf (As := [.long (lN w)]) (c_M_lengthOf l D g (by omega)) rfl (by decide) (Nat.le_of_ble_eq_true rfl) (by omega) (by omega) (fun r X1 hq hl => ?_)
  obtain ⟨rfl, hxeq⟩ := hq
  obtain rfl := hxeq.symm
  refine kw_istore hB M_applied_6 (by decide) rfl ?_
  refine kw_iconst hB M_applied_8 (v := nI 0) (by decide) ?_
  refine kw_istore hB M_applied_9 (by decide) rfl ?_
  have := loop (jlen w) 0 (.retAddr 0) (.retAddr 0) (.retAddr 0) (.retAddr 0) (by omega)
  rw [Nat.sub_zero, Nat.div_eq_of_lt (jlen_lt (Nat.le_refl _)), japp_0] at this
  have h0 : jop 0 = some 0 := by unfold jop; rw [if_neg (by unfold jOV; decide)]
  rw [h0] at this
  exact this
end JMR3
