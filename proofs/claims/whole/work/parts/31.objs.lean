-- cells of Program and Interpreter
def jRr (X : ja_H) (p : Nat) (kd : Nat → Int32) (vr : Nat → Int32) (fs : Nat → Int32) (sc : Nat → Int32) (mt : Nat → Int32) (lv : Nat → Int32) (ct : Int32) (sk : Int32) (op : Int32) (pt : Nat → Int32) (hd : Nat → Int32) : Prop := X[p]? = some (.inr (1, [.ref (p + 1), .ref (p + 2), .ref (p + 3), .ref (p + 4), .ref (p + 5), .ref (p + 6), .int ct, .int sk, .int op, .ref (p + 7), .ref (p + 8)])) ∧ X[p + 1]? = some (.inl (0, 24, .inl kd)) ∧ X[p + 2]? = some (.inl (0, 24, .inl vr)) ∧ X[p + 3]? = some (.inl (0, 24, .inl fs)) ∧ X[p + 4]? = some (.inl (0, 24, .inl sc)) ∧ X[p + 5]? = some (.inl (0, 24, .inl mt)) ∧ X[p + 6]? = some (.inl (0, 24, .inl lv)) ∧ X[p + 7]? = some (.inl (0, 3, .inl pt)) ∧ X[p + 8]? = some (.inl (0, 3, .inl hd))
theorem jRr.lt {X : ja_H} {p : Nat} {kd : Nat → Int32} {vr : Nat → Int32} {fs : Nat → Int32} {sc : Nat → Int32} {mt : Nat → Int32} {lv : Nat → Int32} {ct : Int32} {sk : Int32} {op : Int32} {pt : Nat → Int32} {hd : Nat → Int32} (h : jRr X p kd vr fs sc mt lv ct sk op pt hd) : p + 8 < X.length := by
  obtain ⟨h0, h1, h2, h3, h4, h5, h6, h7, h8⟩ := h
  exact (List.getElem?_eq_some_iff.mp h8).1
theorem jRr.s_kd {X : ja_H} {p : Nat} {kd : Nat → Int32} {vr : Nat → Int32} {fs : Nat → Int32} {sc : Nat → Int32} {mt : Nat → Int32} {lv : Nat → Int32} {ct : Int32} {sk : Int32} {op : Int32} {pt : Nat → Int32} {hd : Nat → Int32} {kd' : Nat → Int32} (h : jRr X p kd vr fs sc mt lv ct sk op pt hd) : jRr (X.set (p + 1) (.inl (0, 24, .inl kd'))) p kd' vr fs sc mt lv ct sk op pt hd := by
  have hl := h.lt
  obtain ⟨h0, h1, h2, h3, h4, h5, h6, h7, h8⟩ := h
  refine ⟨?_, List.getElem?_set_self (by omega), ?_, ?_, ?_, ?_, ?_, ?_, ?_⟩ <;> (rw [List.getElem?_set_ne (by omega)]; assumption)
theorem jRr.s_vr {X : ja_H} {p : Nat} {kd : Nat → Int32} {vr : Nat → Int32} {fs : Nat → Int32} {sc : Nat → Int32} {mt : Nat → Int32} {lv : Nat → Int32} {ct : Int32} {sk : Int32} {op : Int32} {pt : Nat → Int32} {hd : Nat → Int32} {vr' : Nat → Int32} (h : jRr X p kd vr fs sc mt lv ct sk op pt hd) : jRr (X.set (p + 2) (.inl (0, 24, .inl vr'))) p kd vr' fs sc mt lv ct sk op pt hd := by
  have hl := h.lt
  obtain ⟨h0, h1, h2, h3, h4, h5, h6, h7, h8⟩ := h
  refine ⟨?_, ?_, List.getElem?_set_self (by omega), ?_, ?_, ?_, ?_, ?_, ?_⟩ <;> (rw [List.getElem?_set_ne (by omega)]; assumption)
theorem jRr.s_fs {X : ja_H} {p : Nat} {kd : Nat → Int32} {vr : Nat → Int32} {fs : Nat → Int32} {sc : Nat → Int32} {mt : Nat → Int32} {lv : Nat → Int32} {ct : Int32} {sk : Int32} {op : Int32} {pt : Nat → Int32} {hd : Nat → Int32} {fs' : Nat → Int32} (h : jRr X p kd vr fs sc mt lv ct sk op pt hd) : jRr (X.set (p + 3) (.inl (0, 24, .inl fs'))) p kd vr fs' sc mt lv ct sk op pt hd := by
  have hl := h.lt
  obtain ⟨h0, h1, h2, h3, h4, h5, h6, h7, h8⟩ := h
  refine ⟨?_, ?_, ?_, List.getElem?_set_self (by omega), ?_, ?_, ?_, ?_, ?_⟩ <;> (rw [List.getElem?_set_ne (by omega)]; assumption)
theorem jRr.s_sc {X : ja_H} {p : Nat} {kd : Nat → Int32} {vr : Nat → Int32} {fs : Nat → Int32} {sc : Nat → Int32} {mt : Nat → Int32} {lv : Nat → Int32} {ct : Int32} {sk : Int32} {op : Int32} {pt : Nat → Int32} {hd : Nat → Int32} {sc' : Nat → Int32} (h : jRr X p kd vr fs sc mt lv ct sk op pt hd) : jRr (X.set (p + 4) (.inl (0, 24, .inl sc'))) p kd vr fs sc' mt lv ct sk op pt hd := by
  have hl := h.lt
  obtain ⟨h0, h1, h2, h3, h4, h5, h6, h7, h8⟩ := h
  refine ⟨?_, ?_, ?_, ?_, List.getElem?_set_self (by omega), ?_, ?_, ?_, ?_⟩ <;> (rw [List.getElem?_set_ne (by omega)]; assumption)
theorem jRr.s_mt {X : ja_H} {p : Nat} {kd : Nat → Int32} {vr : Nat → Int32} {fs : Nat → Int32} {sc : Nat → Int32} {mt : Nat → Int32} {lv : Nat → Int32} {ct : Int32} {sk : Int32} {op : Int32} {pt : Nat → Int32} {hd : Nat → Int32} {mt' : Nat → Int32} (h : jRr X p kd vr fs sc mt lv ct sk op pt hd) : jRr (X.set (p + 5) (.inl (0, 24, .inl mt'))) p kd vr fs sc mt' lv ct sk op pt hd := by
  have hl := h.lt
  obtain ⟨h0, h1, h2, h3, h4, h5, h6, h7, h8⟩ := h
  refine ⟨?_, ?_, ?_, ?_, ?_, List.getElem?_set_self (by omega), ?_, ?_, ?_⟩ <;> (rw [List.getElem?_set_ne (by omega)]; assumption)
theorem jRr.s_lv {X : ja_H} {p : Nat} {kd : Nat → Int32} {vr : Nat → Int32} {fs : Nat → Int32} {sc : Nat → Int32} {mt : Nat → Int32} {lv : Nat → Int32} {ct : Int32} {sk : Int32} {op : Int32} {pt : Nat → Int32} {hd : Nat → Int32} {lv' : Nat → Int32} (h : jRr X p kd vr fs sc mt lv ct sk op pt hd) : jRr (X.set (p + 6) (.inl (0, 24, .inl lv'))) p kd vr fs sc mt lv' ct sk op pt hd := by
  have hl := h.lt
  obtain ⟨h0, h1, h2, h3, h4, h5, h6, h7, h8⟩ := h
  refine ⟨?_, ?_, ?_, ?_, ?_, ?_, List.getElem?_set_self (by omega), ?_, ?_⟩ <;> (rw [List.getElem?_set_ne (by omega)]; assumption)
theorem jRr.s_ct {X : ja_H} {p : Nat} {kd : Nat → Int32} {vr : Nat → Int32} {fs : Nat → Int32} {sc : Nat → Int32} {mt : Nat → Int32} {lv : Nat → Int32} {ct : Int32} {sk : Int32} {op : Int32} {pt : Nat → Int32} {hd : Nat → Int32} {ct' : Int32} (h : jRr X p kd vr fs sc mt lv ct sk op pt hd) : jRr (X.set p (.inr (1, [.ref (p + 1), .ref (p + 2), .ref (p + 3), .ref (p + 4), .ref (p + 5), .ref (p + 6), .int ct', .int sk, .int op, .ref (p + 7), .ref (p + 8)]))) p kd vr fs sc mt lv ct' sk op pt hd := by
  have hl := h.lt
  obtain ⟨h0, h1, h2, h3, h4, h5, h6, h7, h8⟩ := h
  refine ⟨List.getElem?_set_self (by omega), ?_, ?_, ?_, ?_, ?_, ?_, ?_, ?_⟩ <;> (rw [List.getElem?_set_ne (by omega)]; assumption)
theorem jRr.s_sk {X : ja_H} {p : Nat} {kd : Nat → Int32} {vr : Nat → Int32} {fs : Nat → Int32} {sc : Nat → Int32} {mt : Nat → Int32} {lv : Nat → Int32} {ct : Int32} {sk : Int32} {op : Int32} {pt : Nat → Int32} {hd : Nat → Int32} {sk' : Int32} (h : jRr X p kd vr fs sc mt lv ct sk op pt hd) : jRr (X.set p (.inr (1, [.ref (p + 1), .ref (p + 2), .ref (p + 3), .ref (p + 4), .ref (p + 5), .ref (p + 6), .int ct, .int sk', .int op, .ref (p + 7), .ref (p + 8)]))) p kd vr fs sc mt lv ct sk' op pt hd := by
  have hl := h.lt
  obtain ⟨h0, h1, h2, h3, h4, h5, h6, h7, h8⟩ := h
  refine ⟨List.getElem?_set_self (by omega), ?_, ?_, ?_, ?_, ?_, ?_, ?_, ?_⟩ <;> (rw [List.getElem?_set_ne (by omega)]; assumption)
theorem jRr.s_op {X : ja_H} {p : Nat} {kd : Nat → Int32} {vr : Nat → Int32} {fs : Nat → Int32} {sc : Nat → Int32} {mt : Nat → Int32} {lv : Nat → Int32} {ct : Int32} {sk : Int32} {op : Int32} {pt : Nat → Int32} {hd : Nat → Int32} {op' : Int32} (h : jRr X p kd vr fs sc mt lv ct sk op pt hd) : jRr (X.set p (.inr (1, [.ref (p + 1), .ref (p + 2), .ref (p + 3), .ref (p + 4), .ref (p + 5), .ref (p + 6), .int ct, .int sk, .int op', .ref (p + 7), .ref (p + 8)]))) p kd vr fs sc mt lv ct sk op' pt hd := by
  have hl := h.lt
  obtain ⟨h0, h1, h2, h3, h4, h5, h6, h7, h8⟩ := h
  refine ⟨List.getElem?_set_self (by omega), ?_, ?_, ?_, ?_, ?_, ?_, ?_, ?_⟩ <;> (rw [List.getElem?_set_ne (by omega)]; assumption)
theorem jRr.s_pt {X : ja_H} {p : Nat} {kd : Nat → Int32} {vr : Nat → Int32} {fs : Nat → Int32} {sc : Nat → Int32} {mt : Nat → Int32} {lv : Nat → Int32} {ct : Int32} {sk : Int32} {op : Int32} {pt : Nat → Int32} {hd : Nat → Int32} {pt' : Nat → Int32} (h : jRr X p kd vr fs sc mt lv ct sk op pt hd) : jRr (X.set (p + 7) (.inl (0, 3, .inl pt'))) p kd vr fs sc mt lv ct sk op pt' hd := by
  have hl := h.lt
  obtain ⟨h0, h1, h2, h3, h4, h5, h6, h7, h8⟩ := h
  refine ⟨?_, ?_, ?_, ?_, ?_, ?_, ?_, List.getElem?_set_self (by omega), ?_⟩ <;> (rw [List.getElem?_set_ne (by omega)]; assumption)
theorem jRr.s_hd {X : ja_H} {p : Nat} {kd : Nat → Int32} {vr : Nat → Int32} {fs : Nat → Int32} {sc : Nat → Int32} {mt : Nat → Int32} {lv : Nat → Int32} {ct : Int32} {sk : Int32} {op : Int32} {pt : Nat → Int32} {hd : Nat → Int32} {hd' : Nat → Int32} (h : jRr X p kd vr fs sc mt lv ct sk op pt hd) : jRr (X.set (p + 8) (.inl (0, 3, .inl hd'))) p kd vr fs sc mt lv ct sk op pt hd' := by
  have hl := h.lt
  obtain ⟨h0, h1, h2, h3, h4, h5, h6, h7, h8⟩ := h
  refine ⟨?_, ?_, ?_, ?_, ?_, ?_, ?_, ?_, List.getElem?_set_self (by omega)⟩ <;> (rw [List.getElem?_set_ne (by omega)]; assumption)
abbrev jRrS (p : Nat) : List Nat := [p, p + 1, p + 2, p + 3, p + 4, p + 5, p + 6, p + 7, p + 8]
theorem jRrS_set (X : ja_H) (p i : Nat) (c : ja_C) (hi : i ≤ 8) : jfr (jRrS p) X (X.set (p + i) c) := (jset_fr X (p + i) c).mono (by
  intro k hk
  simp only [List.mem_cons, List.not_mem_nil, or_false] at hk ⊢
  omega)
theorem jRrS_set0 (X : ja_H) (p : Nat) (c : ja_C) : jfr (jRrS p) X (X.set p c) := jRrS_set X p 0 c (by decide)
theorem jRr.fr {X Y : ja_H} {p : Nat} {kd : Nat → Int32} {vr : Nat → Int32} {fs : Nat → Int32} {sc : Nat → Int32} {mt : Nat → Int32} {lv : Nat → Int32} {ct : Int32} {sk : Int32} {op : Int32} {pt : Nat → Int32} {hd : Nat → Int32} {S : List Nat} (h : jRr X p kd vr fs sc mt lv ct sk op pt hd) (hf : jfr S X Y) (hS : ∀ k ∈ S, k < p ∨ p + 8 < k) : jRr Y p kd vr fs sc mt lv ct sk op pt hd := by
  have no : ∀ i, i ≤ 8 → p + i ∉ S := fun i hi z => by have := hS _ z; omega
  obtain ⟨h0, h1, h2, h3, h4, h5, h6, h7, h8⟩ := h
  exact ⟨hf.at (no 0 (by decide)) h0, hf.at (no 1 (by decide)) h1, hf.at (no 2 (by decide)) h2, hf.at (no 3 (by decide)) h3, hf.at (no 4 (by decide)) h4, hf.at (no 5 (by decide)) h5, hf.at (no 6 (by decide)) h6, hf.at (no 7 (by decide)) h7, hf.at (no 8 (by decide)) h8⟩
def jNr (X : ja_H) (p : Nat) (ip : Nat → Int32) (wd : Nat → Int64) (pl : Nat → Int32) (ed : Int32) (hn : Int32) (vl : Nat → Int64) : Prop := X[p]? = some (.inr (8, [.ref (p + 1), .ref (p + 2), .ref (p + 3), .int ed, .int hn, .ref (p + 4)])) ∧ X[p + 1]? = some (.inl (0, 3, .inl ip)) ∧ X[p + 2]? = some (.inl (1, 20, .inr (.inl wd))) ∧ X[p + 3]? = some (.inl (0, 20, .inl pl)) ∧ X[p + 4]? = some (.inl (1, 5, .inr (.inl vl)))
theorem jNr.lt {X : ja_H} {p : Nat} {ip : Nat → Int32} {wd : Nat → Int64} {pl : Nat → Int32} {ed : Int32} {hn : Int32} {vl : Nat → Int64} (h : jNr X p ip wd pl ed hn vl) : p + 4 < X.length := by
  obtain ⟨h0, h1, h2, h3, h4⟩ := h
  exact (List.getElem?_eq_some_iff.mp h4).1
theorem jNr.s_ip {X : ja_H} {p : Nat} {ip : Nat → Int32} {wd : Nat → Int64} {pl : Nat → Int32} {ed : Int32} {hn : Int32} {vl : Nat → Int64} {ip' : Nat → Int32} (h : jNr X p ip wd pl ed hn vl) : jNr (X.set (p + 1) (.inl (0, 3, .inl ip'))) p ip' wd pl ed hn vl := by
  have hl := h.lt
  obtain ⟨h0, h1, h2, h3, h4⟩ := h
  refine ⟨?_, List.getElem?_set_self (by omega), ?_, ?_, ?_⟩ <;> (rw [List.getElem?_set_ne (by omega)]; assumption)
theorem jNr.s_wd {X : ja_H} {p : Nat} {ip : Nat → Int32} {wd : Nat → Int64} {pl : Nat → Int32} {ed : Int32} {hn : Int32} {vl : Nat → Int64} {wd' : Nat → Int64} (h : jNr X p ip wd pl ed hn vl) : jNr (X.set (p + 2) (.inl (1, 20, .inr (.inl wd')))) p ip wd' pl ed hn vl := by
  have hl := h.lt
  obtain ⟨h0, h1, h2, h3, h4⟩ := h
  refine ⟨?_, ?_, List.getElem?_set_self (by omega), ?_, ?_⟩ <;> (rw [List.getElem?_set_ne (by omega)]; assumption)
theorem jNr.s_pl {X : ja_H} {p : Nat} {ip : Nat → Int32} {wd : Nat → Int64} {pl : Nat → Int32} {ed : Int32} {hn : Int32} {vl : Nat → Int64} {pl' : Nat → Int32} (h : jNr X p ip wd pl ed hn vl) : jNr (X.set (p + 3) (.inl (0, 20, .inl pl'))) p ip wd pl' ed hn vl := by
  have hl := h.lt
  obtain ⟨h0, h1, h2, h3, h4⟩ := h
  refine ⟨?_, ?_, ?_, List.getElem?_set_self (by omega), ?_⟩ <;> (rw [List.getElem?_set_ne (by omega)]; assumption)
theorem jNr.s_ed {X : ja_H} {p : Nat} {ip : Nat → Int32} {wd : Nat → Int64} {pl : Nat → Int32} {ed : Int32} {hn : Int32} {vl : Nat → Int64} {ed' : Int32} (h : jNr X p ip wd pl ed hn vl) : jNr (X.set p (.inr (8, [.ref (p + 1), .ref (p + 2), .ref (p + 3), .int ed', .int hn, .ref (p + 4)]))) p ip wd pl ed' hn vl := by
  have hl := h.lt
  obtain ⟨h0, h1, h2, h3, h4⟩ := h
  refine ⟨List.getElem?_set_self (by omega), ?_, ?_, ?_, ?_⟩ <;> (rw [List.getElem?_set_ne (by omega)]; assumption)
theorem jNr.s_hn {X : ja_H} {p : Nat} {ip : Nat → Int32} {wd : Nat → Int64} {pl : Nat → Int32} {ed : Int32} {hn : Int32} {vl : Nat → Int64} {hn' : Int32} (h : jNr X p ip wd pl ed hn vl) : jNr (X.set p (.inr (8, [.ref (p + 1), .ref (p + 2), .ref (p + 3), .int ed, .int hn', .ref (p + 4)]))) p ip wd pl ed hn' vl := by
  have hl := h.lt
  obtain ⟨h0, h1, h2, h3, h4⟩ := h
  refine ⟨List.getElem?_set_self (by omega), ?_, ?_, ?_, ?_⟩ <;> (rw [List.getElem?_set_ne (by omega)]; assumption)
theorem jNr.s_vl {X : ja_H} {p : Nat} {ip : Nat → Int32} {wd : Nat → Int64} {pl : Nat → Int32} {ed : Int32} {hn : Int32} {vl : Nat → Int64} {vl' : Nat → Int64} (h : jNr X p ip wd pl ed hn vl) : jNr (X.set (p + 4) (.inl (1, 5, .inr (.inl vl')))) p ip wd pl ed hn vl' := by
  have hl := h.lt
  obtain ⟨h0, h1, h2, h3, h4⟩ := h
  refine ⟨?_, ?_, ?_, ?_, List.getElem?_set_self (by omega)⟩ <;> (rw [List.getElem?_set_ne (by omega)]; assumption)
abbrev jNrS (p : Nat) : List Nat := [p, p + 1, p + 2, p + 3, p + 4]
theorem jNrS_set (X : ja_H) (p i : Nat) (c : ja_C) (hi : i ≤ 4) : jfr (jNrS p) X (X.set (p + i) c) := (jset_fr X (p + i) c).mono (by
  intro k hk
  simp only [List.mem_cons, List.not_mem_nil, or_false] at hk ⊢
  omega)
theorem jNrS_set0 (X : ja_H) (p : Nat) (c : ja_C) : jfr (jNrS p) X (X.set p c) := jNrS_set X p 0 c (by decide)
theorem jNr.fr {X Y : ja_H} {p : Nat} {ip : Nat → Int32} {wd : Nat → Int64} {pl : Nat → Int32} {ed : Int32} {hn : Int32} {vl : Nat → Int64} {S : List Nat} (h : jNr X p ip wd pl ed hn vl) (hf : jfr S X Y) (hS : ∀ k ∈ S, k < p ∨ p + 4 < k) : jNr Y p ip wd pl ed hn vl := by
  have no : ∀ i, i ≤ 4 → p + i ∉ S := fun i hi z => by have := hS _ z; omega
  obtain ⟨h0, h1, h2, h3, h4⟩ := h
  exact ⟨hf.at (no 0 (by decide)) h0, hf.at (no 1 (by decide)) h1, hf.at (no 2 (by decide)) h2, hf.at (no 3 (by decide)) h3, hf.at (no 4 (by decide)) h4⟩
