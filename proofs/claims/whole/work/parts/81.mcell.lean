-- the model: its cells
def jMf (s : Nat → Int32) : List Value := [.int (s 0), .ref 146, .ref 147, .ref 148, .ref 149, .ref 150, .ref 151, .ref 152, .ref 153, .ref 154, .int (s 10), .int (s 11), .ref 155, .ref 156, .ref 157, .int (s 15), .ref 158, .ref 159, .int (s 18), .int (s 19), .int (s 20), .int (s 21), .int (s 22), .int (s 23), .int (s 24), .int (s 25), .ref 160, .int (s 27), .ref 161, .int (s 29), .ref 162, .ref 163, .int (s 32), .ref 164, .ref 165, .ref 166, .ref 167, .ref 168, .int (s 38), .int (s 39), .ref 169, .ref 170]
def jMo (s : Nat → Int32) : ja_C := .inr (10, jMf s)
theorem km_put {l : Launch} {D : va_G} {g : Nat × Nat} {M : ja_M} {d cm sm : Nat} {K : ja_K} {pc pc' : Nat} {loc st : List Value} {X : ja_H} {nc ns : Nat} (hB : ja_B l D g M d cm sm K) {idx j : Nat} {s : Nat → Int32} {v : Int32} {dcl : String} {ty : FieldType} (h : ja_at M.2.1 pc pc' (.putfield idx) 3) (hX : X[145]? = some (jMo s)) (hf : ja_fld M.1.cls idx 10 j) (hs : ja_sto 10 j false dcl ty) (hl1 : j < 42) (hn : narrow ty (.int v) = .int v) (hfit : fits ty (.int v) = true) (hj : (jMf s).set j (.int v) = jMf (upd s j v)) (k : K pc' loc st (X.set 145 (jMo (upd s j v))) nc ns) : K pc loc (.int v :: .ref 145 :: st) X nc ns := by
  refine kw_putf hB h hf jc_M hs hX hl1 hn hfit ?_
  rw [hj]
  exact k
/-- what makes a language: the slots, and what is worked with -/
def jEr (X : ja_H) (s : Nat → Int32) (st gd tb li se el er cs ct : Nat → Int32) : Prop := X[145]? = some (jMo s) ∧ X[155]? = some (.inl (0, 43, .inl st)) ∧ X[156]? = some (.inl (0, 43, .inl gd)) ∧ X[157]? = some (.inl (3, 8256, .inl tb)) ∧ X[160]? = some (.inl (0, 1536, .inl li)) ∧ X[161]? = some (.inl (0, 1536, .inl se)) ∧ X[162]? = some (.inl (0, 26, .inl el)) ∧ X[163]? = some (.inl (0, 26, .inl er)) ∧ X[164]? = some (.inl (0, 26, .inl cs)) ∧ X[165]? = some (.inl (0, 26, .inl ct))
theorem jEr.lt {X : ja_H} {s : Nat → Int32} {st gd tb li se el er cs ct : Nat → Int32} (h : jEr X s st gd tb li se el er cs ct) : 165 < X.length := by
  obtain ⟨h0, h1, h2, h3, h4, h5, h6, h7, h8, h9⟩ := h
  exact (List.getElem?_eq_some_iff.mp h9).1
theorem jEr.s_s {X : ja_H} {s : Nat → Int32} {st gd tb li se el er cs ct : Nat → Int32} {f' : Nat → Int32} (h : jEr X s st gd tb li se el er cs ct) : jEr (X.set 145 (jMo f')) f' st gd tb li se el er cs ct := by
  have hl := h.lt
  obtain ⟨h0, h1, h2, h3, h4, h5, h6, h7, h8, h9⟩ := h
  refine ⟨List.getElem?_set_self (by omega), ?_, ?_, ?_, ?_, ?_, ?_, ?_, ?_, ?_⟩ <;> (rw [List.getElem?_set_ne (by decide)]; assumption)
theorem jEr.s_st {X : ja_H} {s : Nat → Int32} {st gd tb li se el er cs ct : Nat → Int32} {f' : Nat → Int32} (h : jEr X s st gd tb li se el er cs ct) : jEr (X.set 155 (.inl (0, 43, .inl f'))) s f' gd tb li se el er cs ct := by
  have hl := h.lt
  obtain ⟨h0, h1, h2, h3, h4, h5, h6, h7, h8, h9⟩ := h
  refine ⟨?_, List.getElem?_set_self (by omega), ?_, ?_, ?_, ?_, ?_, ?_, ?_, ?_⟩ <;> (rw [List.getElem?_set_ne (by decide)]; assumption)
theorem jEr.s_gd {X : ja_H} {s : Nat → Int32} {st gd tb li se el er cs ct : Nat → Int32} {f' : Nat → Int32} (h : jEr X s st gd tb li se el er cs ct) : jEr (X.set 156 (.inl (0, 43, .inl f'))) s st f' tb li se el er cs ct := by
  have hl := h.lt
  obtain ⟨h0, h1, h2, h3, h4, h5, h6, h7, h8, h9⟩ := h
  refine ⟨?_, ?_, List.getElem?_set_self (by omega), ?_, ?_, ?_, ?_, ?_, ?_, ?_⟩ <;> (rw [List.getElem?_set_ne (by decide)]; assumption)
theorem jEr.s_tb {X : ja_H} {s : Nat → Int32} {st gd tb li se el er cs ct : Nat → Int32} {f' : Nat → Int32} (h : jEr X s st gd tb li se el er cs ct) : jEr (X.set 157 (.inl (3, 8256, .inl f'))) s st gd f' li se el er cs ct := by
  have hl := h.lt
  obtain ⟨h0, h1, h2, h3, h4, h5, h6, h7, h8, h9⟩ := h
  refine ⟨?_, ?_, ?_, List.getElem?_set_self (by omega), ?_, ?_, ?_, ?_, ?_, ?_⟩ <;> (rw [List.getElem?_set_ne (by decide)]; assumption)
theorem jEr.s_li {X : ja_H} {s : Nat → Int32} {st gd tb li se el er cs ct : Nat → Int32} {f' : Nat → Int32} (h : jEr X s st gd tb li se el er cs ct) : jEr (X.set 160 (.inl (0, 1536, .inl f'))) s st gd tb f' se el er cs ct := by
  have hl := h.lt
  obtain ⟨h0, h1, h2, h3, h4, h5, h6, h7, h8, h9⟩ := h
  refine ⟨?_, ?_, ?_, ?_, List.getElem?_set_self (by omega), ?_, ?_, ?_, ?_, ?_⟩ <;> (rw [List.getElem?_set_ne (by decide)]; assumption)
theorem jEr.s_se {X : ja_H} {s : Nat → Int32} {st gd tb li se el er cs ct : Nat → Int32} {f' : Nat → Int32} (h : jEr X s st gd tb li se el er cs ct) : jEr (X.set 161 (.inl (0, 1536, .inl f'))) s st gd tb li f' el er cs ct := by
  have hl := h.lt
  obtain ⟨h0, h1, h2, h3, h4, h5, h6, h7, h8, h9⟩ := h
  refine ⟨?_, ?_, ?_, ?_, ?_, List.getElem?_set_self (by omega), ?_, ?_, ?_, ?_⟩ <;> (rw [List.getElem?_set_ne (by decide)]; assumption)
theorem jEr.s_el {X : ja_H} {s : Nat → Int32} {st gd tb li se el er cs ct : Nat → Int32} {f' : Nat → Int32} (h : jEr X s st gd tb li se el er cs ct) : jEr (X.set 162 (.inl (0, 26, .inl f'))) s st gd tb li se f' er cs ct := by
  have hl := h.lt
  obtain ⟨h0, h1, h2, h3, h4, h5, h6, h7, h8, h9⟩ := h
  refine ⟨?_, ?_, ?_, ?_, ?_, ?_, List.getElem?_set_self (by omega), ?_, ?_, ?_⟩ <;> (rw [List.getElem?_set_ne (by decide)]; assumption)
theorem jEr.s_er {X : ja_H} {s : Nat → Int32} {st gd tb li se el er cs ct : Nat → Int32} {f' : Nat → Int32} (h : jEr X s st gd tb li se el er cs ct) : jEr (X.set 163 (.inl (0, 26, .inl f'))) s st gd tb li se el f' cs ct := by
  have hl := h.lt
  obtain ⟨h0, h1, h2, h3, h4, h5, h6, h7, h8, h9⟩ := h
  refine ⟨?_, ?_, ?_, ?_, ?_, ?_, ?_, List.getElem?_set_self (by omega), ?_, ?_⟩ <;> (rw [List.getElem?_set_ne (by decide)]; assumption)
theorem jEr.s_cs {X : ja_H} {s : Nat → Int32} {st gd tb li se el er cs ct : Nat → Int32} {f' : Nat → Int32} (h : jEr X s st gd tb li se el er cs ct) : jEr (X.set 164 (.inl (0, 26, .inl f'))) s st gd tb li se el er f' ct := by
  have hl := h.lt
  obtain ⟨h0, h1, h2, h3, h4, h5, h6, h7, h8, h9⟩ := h
  refine ⟨?_, ?_, ?_, ?_, ?_, ?_, ?_, ?_, List.getElem?_set_self (by omega), ?_⟩ <;> (rw [List.getElem?_set_ne (by decide)]; assumption)
theorem jEr.s_ct {X : ja_H} {s : Nat → Int32} {st gd tb li se el er cs ct : Nat → Int32} {f' : Nat → Int32} (h : jEr X s st gd tb li se el er cs ct) : jEr (X.set 165 (.inl (0, 26, .inl f'))) s st gd tb li se el er cs f' := by
  have hl := h.lt
  obtain ⟨h0, h1, h2, h3, h4, h5, h6, h7, h8, h9⟩ := h
  refine ⟨?_, ?_, ?_, ?_, ?_, ?_, ?_, ?_, ?_, List.getElem?_set_self (by omega)⟩ <;> (rw [List.getElem?_set_ne (by decide)]; assumption)
theorem jEr.fr {X Y : ja_H} {s : Nat → Int32} {st gd tb li se el er cs ct : Nat → Int32} {S : List Nat} (h : jEr X s st gd tb li se el er cs ct) (hf : jfr S X Y) (hS : ∀ k ∈ S, k ≠ 145 ∧ k ≠ 155 ∧ k ≠ 156 ∧ k ≠ 157 ∧ k ≠ 160 ∧ k ≠ 161 ∧ k ≠ 162 ∧ k ≠ 163 ∧ k ≠ 164 ∧ k ≠ 165) : jEr Y s st gd tb li se el er cs ct := by
  obtain ⟨h0, h1, h2, h3, h4, h5, h6, h7, h8, h9⟩ := h
  have no : ∀ j, (j = 145 ∨ j = 155 ∨ j = 156 ∨ j = 157 ∨ j = 160 ∨ j = 161 ∨ j = 162 ∨ j = 163 ∨ j = 164 ∨ j = 165) → j ∉ S := fun j hj z => by have := hS j z; omega
  exact ⟨hf.at (no _ (by decide)) h0, hf.at (no _ (by decide)) h1, hf.at (no _ (by decide)) h2, hf.at (no _ (by decide)) h3, hf.at (no _ (by decide)) h4, hf.at (no _ (by decide)) h5, hf.at (no _ (by decide)) h6, hf.at (no _ (by decide)) h7, hf.at (no _ (by decide)) h8, hf.at (no _ (by decide)) h9⟩
/-- the slots alone -/
def jTr (X : ja_H) (s : Nat → Int32) (st gd tb : Nat → Int32) : Prop := X[145]? = some (jMo s) ∧ X[155]? = some (.inl (0, 43, .inl st)) ∧ X[156]? = some (.inl (0, 43, .inl gd)) ∧ X[157]? = some (.inl (3, 8256, .inl tb))
theorem jTr.lt {X : ja_H} {s : Nat → Int32} {st gd tb : Nat → Int32} (h : jTr X s st gd tb) : 157 < X.length := by
  obtain ⟨h0, h1, h2, h3⟩ := h
  exact (List.getElem?_eq_some_iff.mp h3).1
theorem jTr.s_s {X : ja_H} {s : Nat → Int32} {st gd tb : Nat → Int32} {f' : Nat → Int32} (h : jTr X s st gd tb) : jTr (X.set 145 (jMo f')) f' st gd tb := by
  have hl := h.lt
  obtain ⟨h0, h1, h2, h3⟩ := h
  refine ⟨List.getElem?_set_self (by omega), ?_, ?_, ?_⟩ <;> (rw [List.getElem?_set_ne (by decide)]; assumption)
theorem jTr.s_st {X : ja_H} {s : Nat → Int32} {st gd tb : Nat → Int32} {f' : Nat → Int32} (h : jTr X s st gd tb) : jTr (X.set 155 (.inl (0, 43, .inl f'))) s f' gd tb := by
  have hl := h.lt
  obtain ⟨h0, h1, h2, h3⟩ := h
  refine ⟨?_, List.getElem?_set_self (by omega), ?_, ?_⟩ <;> (rw [List.getElem?_set_ne (by decide)]; assumption)
theorem jTr.s_gd {X : ja_H} {s : Nat → Int32} {st gd tb : Nat → Int32} {f' : Nat → Int32} (h : jTr X s st gd tb) : jTr (X.set 156 (.inl (0, 43, .inl f'))) s st f' tb := by
  have hl := h.lt
  obtain ⟨h0, h1, h2, h3⟩ := h
  refine ⟨?_, ?_, List.getElem?_set_self (by omega), ?_⟩ <;> (rw [List.getElem?_set_ne (by decide)]; assumption)
theorem jTr.s_tb {X : ja_H} {s : Nat → Int32} {st gd tb : Nat → Int32} {f' : Nat → Int32} (h : jTr X s st gd tb) : jTr (X.set 157 (.inl (3, 8256, .inl f'))) s st gd f' := by
  have hl := h.lt
  obtain ⟨h0, h1, h2, h3⟩ := h
  refine ⟨?_, ?_, ?_, List.getElem?_set_self (by omega)⟩ <;> (rw [List.getElem?_set_ne (by decide)]; assumption)
theorem jTr.fr {X Y : ja_H} {s : Nat → Int32} {st gd tb : Nat → Int32} {S : List Nat} (h : jTr X s st gd tb) (hf : jfr S X Y) (hS : ∀ k ∈ S, k ≠ 145 ∧ k ≠ 155 ∧ k ≠ 156 ∧ k ≠ 157) : jTr Y s st gd tb := by
  obtain ⟨h0, h1, h2, h3⟩ := h
  have no : ∀ j, (j = 145 ∨ j = 155 ∨ j = 156 ∨ j = 157) → j ∉ S := fun j hj z => by have := hS j z; omega
  exact ⟨hf.at (no _ (by decide)) h0, hf.at (no _ (by decide)) h1, hf.at (no _ (by decide)) h2, hf.at (no _ (by decide)) h3⟩
/-- the lines -/
def jPl (X : ja_H) (s : Nat → Int32) (wh on tw th dp bg ol el bk : Nat → Int32) : Prop := X[145]? = some (jMo s) ∧ X[146]? = some (.inl (0, 24, .inl wh)) ∧ X[147]? = some (.inl (0, 24, .inl on)) ∧ X[148]? = some (.inl (0, 24, .inl tw)) ∧ X[149]? = some (.inl (0, 24, .inl th)) ∧ X[150]? = some (.inl (0, 24, .inl dp)) ∧ X[151]? = some (.inl (0, 24, .inl bg)) ∧ X[152]? = some (.inl (0, 24, .inl ol)) ∧ X[153]? = some (.inl (0, 24, .inl el)) ∧ X[154]? = some (.inl (0, 3, .inl bk))
theorem jPl.lt {X : ja_H} {s : Nat → Int32} {wh on tw th dp bg ol el bk : Nat → Int32} (h : jPl X s wh on tw th dp bg ol el bk) : 154 < X.length := by
  obtain ⟨h0, h1, h2, h3, h4, h5, h6, h7, h8, h9⟩ := h
  exact (List.getElem?_eq_some_iff.mp h9).1
theorem jPl.s_s {X : ja_H} {s : Nat → Int32} {wh on tw th dp bg ol el bk : Nat → Int32} {f' : Nat → Int32} (h : jPl X s wh on tw th dp bg ol el bk) : jPl (X.set 145 (jMo f')) f' wh on tw th dp bg ol el bk := by
  have hl := h.lt
  obtain ⟨h0, h1, h2, h3, h4, h5, h6, h7, h8, h9⟩ := h
  refine ⟨List.getElem?_set_self (by omega), ?_, ?_, ?_, ?_, ?_, ?_, ?_, ?_, ?_⟩ <;> (rw [List.getElem?_set_ne (by decide)]; assumption)
theorem jPl.s_wh {X : ja_H} {s : Nat → Int32} {wh on tw th dp bg ol el bk : Nat → Int32} {f' : Nat → Int32} (h : jPl X s wh on tw th dp bg ol el bk) : jPl (X.set 146 (.inl (0, 24, .inl f'))) s f' on tw th dp bg ol el bk := by
  have hl := h.lt
  obtain ⟨h0, h1, h2, h3, h4, h5, h6, h7, h8, h9⟩ := h
  refine ⟨?_, List.getElem?_set_self (by omega), ?_, ?_, ?_, ?_, ?_, ?_, ?_, ?_⟩ <;> (rw [List.getElem?_set_ne (by decide)]; assumption)
theorem jPl.s_on {X : ja_H} {s : Nat → Int32} {wh on tw th dp bg ol el bk : Nat → Int32} {f' : Nat → Int32} (h : jPl X s wh on tw th dp bg ol el bk) : jPl (X.set 147 (.inl (0, 24, .inl f'))) s wh f' tw th dp bg ol el bk := by
  have hl := h.lt
  obtain ⟨h0, h1, h2, h3, h4, h5, h6, h7, h8, h9⟩ := h
  refine ⟨?_, ?_, List.getElem?_set_self (by omega), ?_, ?_, ?_, ?_, ?_, ?_, ?_⟩ <;> (rw [List.getElem?_set_ne (by decide)]; assumption)
theorem jPl.s_tw {X : ja_H} {s : Nat → Int32} {wh on tw th dp bg ol el bk : Nat → Int32} {f' : Nat → Int32} (h : jPl X s wh on tw th dp bg ol el bk) : jPl (X.set 148 (.inl (0, 24, .inl f'))) s wh on f' th dp bg ol el bk := by
  have hl := h.lt
  obtain ⟨h0, h1, h2, h3, h4, h5, h6, h7, h8, h9⟩ := h
  refine ⟨?_, ?_, ?_, List.getElem?_set_self (by omega), ?_, ?_, ?_, ?_, ?_, ?_⟩ <;> (rw [List.getElem?_set_ne (by decide)]; assumption)
theorem jPl.s_th {X : ja_H} {s : Nat → Int32} {wh on tw th dp bg ol el bk : Nat → Int32} {f' : Nat → Int32} (h : jPl X s wh on tw th dp bg ol el bk) : jPl (X.set 149 (.inl (0, 24, .inl f'))) s wh on tw f' dp bg ol el bk := by
  have hl := h.lt
  obtain ⟨h0, h1, h2, h3, h4, h5, h6, h7, h8, h9⟩ := h
  refine ⟨?_, ?_, ?_, ?_, List.getElem?_set_self (by omega), ?_, ?_, ?_, ?_, ?_⟩ <;> (rw [List.getElem?_set_ne (by decide)]; assumption)
theorem jPl.s_dp {X : ja_H} {s : Nat → Int32} {wh on tw th dp bg ol el bk : Nat → Int32} {f' : Nat → Int32} (h : jPl X s wh on tw th dp bg ol el bk) : jPl (X.set 150 (.inl (0, 24, .inl f'))) s wh on tw th f' bg ol el bk := by
  have hl := h.lt
  obtain ⟨h0, h1, h2, h3, h4, h5, h6, h7, h8, h9⟩ := h
  refine ⟨?_, ?_, ?_, ?_, ?_, List.getElem?_set_self (by omega), ?_, ?_, ?_, ?_⟩ <;> (rw [List.getElem?_set_ne (by decide)]; assumption)
theorem jPl.s_bg {X : ja_H} {s : Nat → Int32} {wh on tw th dp bg ol el bk : Nat → Int32} {f' : Nat → Int32} (h : jPl X s wh on tw th dp bg ol el bk) : jPl (X.set 151 (.inl (0, 24, .inl f'))) s wh on tw th dp f' ol el bk := by
  have hl := h.lt
  obtain ⟨h0, h1, h2, h3, h4, h5, h6, h7, h8, h9⟩ := h
  refine ⟨?_, ?_, ?_, ?_, ?_, ?_, List.getElem?_set_self (by omega), ?_, ?_, ?_⟩ <;> (rw [List.getElem?_set_ne (by decide)]; assumption)
theorem jPl.s_ol {X : ja_H} {s : Nat → Int32} {wh on tw th dp bg ol el bk : Nat → Int32} {f' : Nat → Int32} (h : jPl X s wh on tw th dp bg ol el bk) : jPl (X.set 152 (.inl (0, 24, .inl f'))) s wh on tw th dp bg f' el bk := by
  have hl := h.lt
  obtain ⟨h0, h1, h2, h3, h4, h5, h6, h7, h8, h9⟩ := h
  refine ⟨?_, ?_, ?_, ?_, ?_, ?_, ?_, List.getElem?_set_self (by omega), ?_, ?_⟩ <;> (rw [List.getElem?_set_ne (by decide)]; assumption)
theorem jPl.s_el {X : ja_H} {s : Nat → Int32} {wh on tw th dp bg ol el bk : Nat → Int32} {f' : Nat → Int32} (h : jPl X s wh on tw th dp bg ol el bk) : jPl (X.set 153 (.inl (0, 24, .inl f'))) s wh on tw th dp bg ol f' bk := by
  have hl := h.lt
  obtain ⟨h0, h1, h2, h3, h4, h5, h6, h7, h8, h9⟩ := h
  refine ⟨?_, ?_, ?_, ?_, ?_, ?_, ?_, ?_, List.getElem?_set_self (by omega), ?_⟩ <;> (rw [List.getElem?_set_ne (by decide)]; assumption)
theorem jPl.s_bk {X : ja_H} {s : Nat → Int32} {wh on tw th dp bg ol el bk : Nat → Int32} {f' : Nat → Int32} (h : jPl X s wh on tw th dp bg ol el bk) : jPl (X.set 154 (.inl (0, 3, .inl f'))) s wh on tw th dp bg ol el f' := by
  have hl := h.lt
  obtain ⟨h0, h1, h2, h3, h4, h5, h6, h7, h8, h9⟩ := h
  refine ⟨?_, ?_, ?_, ?_, ?_, ?_, ?_, ?_, ?_, List.getElem?_set_self (by omega)⟩ <;> (rw [List.getElem?_set_ne (by decide)]; assumption)
theorem jPl.fr {X Y : ja_H} {s : Nat → Int32} {wh on tw th dp bg ol el bk : Nat → Int32} {S : List Nat} (h : jPl X s wh on tw th dp bg ol el bk) (hf : jfr S X Y) (hS : ∀ k ∈ S, k ≠ 145 ∧ k ≠ 146 ∧ k ≠ 147 ∧ k ≠ 148 ∧ k ≠ 149 ∧ k ≠ 150 ∧ k ≠ 151 ∧ k ≠ 152 ∧ k ≠ 153 ∧ k ≠ 154) : jPl Y s wh on tw th dp bg ol el bk := by
  obtain ⟨h0, h1, h2, h3, h4, h5, h6, h7, h8, h9⟩ := h
  have no : ∀ j, (j = 145 ∨ j = 146 ∨ j = 147 ∨ j = 148 ∨ j = 149 ∨ j = 150 ∨ j = 151 ∨ j = 152 ∨ j = 153 ∨ j = 154) → j ∉ S := fun j hj z => by have := hS j z; omega
  exact ⟨hf.at (no _ (by decide)) h0, hf.at (no _ (by decide)) h1, hf.at (no _ (by decide)) h2, hf.at (no _ (by decide)) h3, hf.at (no _ (by decide)) h4, hf.at (no _ (by decide)) h5, hf.at (no _ (by decide)) h6, hf.at (no _ (by decide)) h7, hf.at (no _ (by decide)) h8, hf.at (no _ (by decide)) h9⟩
theorem jEr.tr {X : ja_H} {s st gd tb li se el er cs ct : Nat → Int32} (h : jEr X s st gd tb li se el er cs ct) : jTr X s st gd tb := ⟨h.1, h.2.1, h.2.2.1, h.2.2.2.1⟩
