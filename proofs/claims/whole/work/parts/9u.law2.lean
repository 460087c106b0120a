-- the law: the roads of its switch
section JLW_set
variable {l : Launch} {D : va_G} {g : Nat × Nat} {Kk : ja_K} {xs : Nat → Int32} {Ln i : Nat} {X : ja_H}
set_option maxHeartbeats 8000000 in
set_option maxRecDepth 100000 in
theorem lc_set (hB : ja_B l D g m_Z_law 14 600000 7302250 Kk) (hld : ∀ {j pc pc' : Nat} {loc st : List Value} {X : ja_H} {nc ns : Nat}, j < Ln → ja_at m_Z_law.2.1 pc pc' .iaload 1 → Kk pc' loc (.int (xs j) :: st) X nc ns → Kk pc loc (.int (nI j) :: .ref 0 :: st) X nc ns) (hb : jBoth X) (hi : i + 4 ≤ Ln) (k : ∀ X' : ja_H, jBoth X' → X'.length = X.length → Kk 756 [.ref 0, .ref 1, .ref 145, .int (nI i)] [] X' 170 44127) : Kk 132 [.ref 0, .ref 1, .ref 145, .int (nI i)] [] X 170 44127 := by
  obtain ⟨n, s, K, V, A, B, M, L, σ, md, ip, wd, pl, hn, ed, hC, hMd⟩ := id hb
  refine kw_aload_n hB Z_law_132 rfl ?_
  refine kw_aload_n hB Z_law_133 rfl ?_
  refine kw_iload_n hB Z_law_134 rfl ?_
  refine kw_iconst hB Z_law_135 (v := nI 1) (by decide) ?_
  refine kn_iadd hB Z_law_136 ?_
  refine hld (by omega) Z_law_137 ?_
  refine kw_aload_n hB Z_law_138 rfl ?_
  refine kw_iload_n hB Z_law_139 rfl ?_
  refine kw_iconst hB Z_law_140 (v := nI 2) (by decide) ?_
  refine kn_iadd hB Z_law_141 ?_
  refine hld (by omega) Z_law_142 ?_
  refine kw_callV hB Z_law_143 s_Z_13 im_T_set se_T_set hC.1 rfl rfl (As := [.int (xs (i + 1)), .int (xs (i + 2))]) (c_T_set l D g hC) rfl (by decide) (Nat.le_of_ble_eq_true rfl) (by omega) (by omega) (fun r X1 hq hl => ?_)
  obtain ⟨v, rfl, ⟨sc, hc2⟩, hM2⟩ := jagr_add l D g hC hMd hq (fun Y hY => c_M_set l D g hY hC.2.1)
  refine kw_aload_n hB Z_law_146 rfl ?_
  refine kw_aload_n hB Z_law_147 rfl ?_
  refine kw_iload_n hB Z_law_148 rfl ?_
  refine kw_iconst hB Z_law_149 (v := nI 1) (by decide) ?_
  refine kn_iadd hB Z_law_150 ?_
  refine hld (by omega) Z_law_151 ?_
  refine kw_aload_n hB Z_law_152 rfl ?_
  refine kw_iload_n hB Z_law_153 rfl ?_
  refine kw_iconst hB Z_law_154 (v := nI 2) (by decide) ?_
  refine kn_iadd hB Z_law_155 ?_
  refine hld (by omega) Z_law_156 ?_
  refine kw_callV hB Z_law_157 s_Z_17 im_M_set se_M_set hc2 rfl rfl (As := [.int (xs (i + 1)), .int (xs (i + 2))]) (hM2) rfl (by decide) (Nat.le_of_ble_eq_true rfl) (by omega) (by omega) (fun r X1 hq hl => ?_)
  obtain ⟨rfl, hb2⟩ := hq
  exact kw_icmp_eq hB Z_law_160 (fun _ => k _ hb2 (by omega)) (fun z => absurd rfl z)
end JLW_set
section JLW_get
variable {l : Launch} {D : va_G} {g : Nat × Nat} {Kk : ja_K} {xs : Nat → Int32} {Ln i : Nat} {X : ja_H}
set_option maxHeartbeats 8000000 in
set_option maxRecDepth 100000 in
theorem lc_get (hB : ja_B l D g m_Z_law 14 600000 7302250 Kk) (hld : ∀ {j pc pc' : Nat} {loc st : List Value} {X : ja_H} {nc ns : Nat}, j < Ln → ja_at m_Z_law.2.1 pc pc' .iaload 1 → Kk pc' loc (.int (xs j) :: st) X nc ns → Kk pc loc (.int (nI j) :: .ref 0 :: st) X nc ns) (hb : jBoth X) (hi : i + 4 ≤ Ln) (k : ∀ X' : ja_H, jBoth X' → X'.length = X.length → Kk 756 [.ref 0, .ref 1, .ref 145, .int (nI i)] [] X' 170 44127) : Kk 165 [.ref 0, .ref 1, .ref 145, .int (nI i)] [] X 170 44127 := by
  obtain ⟨n, s, K, V, A, B, M, L, σ, md, ip, wd, pl, hn, ed, hC, hMd⟩ := id hb
  refine kw_aload_n hB Z_law_165 rfl ?_
  refine kw_aload_n hB Z_law_166 rfl ?_
  refine kw_iload_n hB Z_law_167 rfl ?_
  refine kw_iconst hB Z_law_168 (v := nI 1) (by decide) ?_
  refine kn_iadd hB Z_law_169 ?_
  refine hld (by omega) Z_law_170 ?_
  refine kw_aload_n hB Z_law_171 rfl ?_
  refine kw_iload_n hB Z_law_172 rfl ?_
  refine kw_iconst hB Z_law_173 (v := nI 2) (by decide) ?_
  refine kn_iadd hB Z_law_174 ?_
  refine hld (by omega) Z_law_175 ?_
  refine kw_callV hB Z_law_176 s_Z_18 im_T_get se_T_get hC.1 rfl rfl (As := [.int (xs (i + 1)), .int (xs (i + 2))]) (c_T_get l D g hC) rfl (by decide) (Nat.le_of_ble_eq_true rfl) (by omega) (by omega) (fun r X1 hq hl => ?_)
  obtain ⟨v, rfl, ⟨sc, hc2⟩, hM2⟩ := jagr_add l D g hC hMd hq (fun Y hY => c_M_get l D g hY hC.2.1)
  refine kw_aload_n hB Z_law_179 rfl ?_
  refine kw_aload_n hB Z_law_180 rfl ?_
  refine kw_iload_n hB Z_law_181 rfl ?_
  refine kw_iconst hB Z_law_182 (v := nI 1) (by decide) ?_
  refine kn_iadd hB Z_law_183 ?_
  refine hld (by omega) Z_law_184 ?_
  refine kw_aload_n hB Z_law_185 rfl ?_
  refine kw_iload_n hB Z_law_186 rfl ?_
  refine kw_iconst hB Z_law_187 (v := nI 2) (by decide) ?_
  refine kn_iadd hB Z_law_188 ?_
  refine hld (by omega) Z_law_189 ?_
  refine kw_callV hB Z_law_190 s_Z_21 im_M_get se_M_get hc2 rfl rfl (As := [.int (xs (i + 1)), .int (xs (i + 2))]) (hM2) rfl (by decide) (Nat.le_of_ble_eq_true rfl) (by omega) (by omega) (fun r X1 hq hl => ?_)
  obtain ⟨rfl, hb2⟩ := hq
  exact kw_icmp_eq hB Z_law_193 (fun _ => k _ hb2 (by omega)) (fun z => absurd rfl z)
end JLW_get
section JLW_join
variable {l : Launch} {D : va_G} {g : Nat × Nat} {Kk : ja_K} {xs : Nat → Int32} {Ln i : Nat} {X : ja_H}
set_option maxHeartbeats 8000000 in
set_option maxRecDepth 100000 in
theorem lc_join (hB : ja_B l D g m_Z_law 14 600000 7302250 Kk) (hld : ∀ {j pc pc' : Nat} {loc st : List Value} {X : ja_H} {nc ns : Nat}, j < Ln → ja_at m_Z_law.2.1 pc pc' .iaload 1 → Kk pc' loc (.int (xs j) :: st) X nc ns → Kk pc loc (.int (nI j) :: .ref 0 :: st) X nc ns) (hb : jBoth X) (hi : i + 4 ≤ Ln) (k : ∀ X' : ja_H, jBoth X' → X'.length = X.length → Kk 756 [.ref 0, .ref 1, .ref 145, .int (nI i)] [] X' 170 44127) : Kk 198 [.ref 0, .ref 1, .ref 145, .int (nI i)] [] X 170 44127 := by
  obtain ⟨n, s, K, V, A, B, M, L, σ, md, ip, wd, pl, hn, ed, hC, hMd⟩ := id hb
  refine kw_aload_n hB Z_law_198 rfl ?_
  refine kw_aload_n hB Z_law_199 rfl ?_
  refine kw_iload_n hB Z_law_200 rfl ?_
  refine kw_iconst hB Z_law_201 (v := nI 1) (by decide) ?_
  refine kn_iadd hB Z_law_202 ?_
  refine hld (by omega) Z_law_203 ?_
  refine kw_aload_n hB Z_law_204 rfl ?_
  refine kw_iload_n hB Z_law_205 rfl ?_
  refine kw_iconst hB Z_law_206 (v := nI 2) (by decide) ?_
  refine kn_iadd hB Z_law_207 ?_
  refine hld (by omega) Z_law_208 ?_
  refine kw_aload_n hB Z_law_209 rfl ?_
  refine kw_iload_n hB Z_law_210 rfl ?_
  refine kw_iconst hB Z_law_211 (v := nI 3) (by decide) ?_
  refine kn_iadd hB Z_law_212 ?_
  refine hld (by omega) Z_law_213 ?_
  refine kw_callV hB Z_law_214 s_Z_22 im_T_join se_T_join hC.1 rfl rfl (As := [.int (xs (i + 1)), .int (xs (i + 2)), .int (xs (i + 3))]) (c_T_join l D g hC) rfl (by decide) (Nat.le_of_ble_eq_true rfl) (by omega) (by omega) (fun r X1 hq hl => ?_)
  obtain ⟨v, rfl, ⟨sc, hc2⟩, hM2⟩ := jagr_add l D g hC hMd hq (fun Y hY => c_M_join l D g hY hC.2.1)
  refine kw_aload_n hB Z_law_217 rfl ?_
  refine kw_aload_n hB Z_law_218 rfl ?_
  refine kw_iload_n hB Z_law_219 rfl ?_
  refine kw_iconst hB Z_law_220 (v := nI 1) (by decide) ?_
  refine kn_iadd hB Z_law_221 ?_
  refine hld (by omega) Z_law_222 ?_
  refine kw_aload_n hB Z_law_223 rfl ?_
  refine kw_iload_n hB Z_law_224 rfl ?_
  refine kw_iconst hB Z_law_225 (v := nI 2) (by decide) ?_
  refine kn_iadd hB Z_law_226 ?_
  refine hld (by omega) Z_law_227 ?_
  refine kw_aload_n hB Z_law_228 rfl ?_
  refine kw_iload_n hB Z_law_229 rfl ?_
  refine kw_iconst hB Z_law_230 (v := nI 3) (by decide) ?_
  refine kn_iadd hB Z_law_231 ?_
  refine hld (by omega) Z_law_232 ?_
  refine kw_callV hB Z_law_233 s_Z_26 im_M_join se_M_join hc2 rfl rfl (As := [.int (xs (i + 1)), .int (xs (i + 2)), .int (xs (i + 3))]) (hM2) rfl (by decide) (Nat.le_of_ble_eq_true rfl) (by omega) (by omega) (fun r X1 hq hl => ?_)
  obtain ⟨rfl, hb2⟩ := hq
  exact kw_icmp_eq hB Z_law_236 (fun _ => k _ hb2 (by omega)) (fun z => absurd rfl z)
end JLW_join
section JLW_apply
variable {l : Launch} {D : va_G} {g : Nat × Nat} {Kk : ja_K} {xs : Nat → Int32} {Ln i : Nat} {X : ja_H}
set_option maxHeartbeats 8000000 in
set_option maxRecDepth 100000 in
theorem lc_apply (hB : ja_B l D g m_Z_law 14 600000 7302250 Kk) (hld : ∀ {j pc pc' : Nat} {loc st : List Value} {X : ja_H} {nc ns : Nat}, j < Ln → ja_at m_Z_law.2.1 pc pc' .iaload 1 → Kk pc' loc (.int (xs j) :: st) X nc ns → Kk pc loc (.int (nI j) :: .ref 0 :: st) X nc ns) (hb : jBoth X) (hi : i + 4 ≤ Ln) (k : ∀ X' : ja_H, jBoth X' → X'.length = X.length → Kk 756 [.ref 0, .ref 1, .ref 145, .int (nI i)] [] X' 170 44127) : Kk 241 [.ref 0, .ref 1, .ref 145, .int (nI i)] [] X 170 44127 := by
  obtain ⟨n, s, K, V, A, B, M, L, σ, md, ip, wd, pl, hn, ed, hC, hMd⟩ := id hb
  refine kw_aload_n hB Z_law_241 rfl ?_
  refine kw_aload_n hB Z_law_242 rfl ?_
  refine kw_iload_n hB Z_law_243 rfl ?_
  refine kw_iconst hB Z_law_244 (v := nI 1) (by decide) ?_
  refine kn_iadd hB Z_law_245 ?_
  refine hld (by omega) Z_law_246 ?_
  refine kw_aload_n hB Z_law_247 rfl ?_
  refine kw_iload_n hB Z_law_248 rfl ?_
  refine kw_iconst hB Z_law_249 (v := nI 2) (by decide) ?_
  refine kn_iadd hB Z_law_250 ?_
  refine hld (by omega) Z_law_251 ?_
  refine kw_aload_n hB Z_law_252 rfl ?_
  refine kw_iload_n hB Z_law_253 rfl ?_
  refine kw_iconst hB Z_law_254 (v := nI 3) (by decide) ?_
  refine kn_iadd hB Z_law_255 ?_
  refine hld (by omega) Z_law_256 ?_
  refine kw_callV hB Z_law_257 s_Z_27 im_T_apply se_T_apply hC.1 rfl rfl (As := [.int (xs (i + 1)), .int (xs (i + 2)), .int (xs (i + 3))]) (c_T_apply l D g hC) rfl (by decide) (Nat.le_of_ble_eq_true rfl) (by omega) (by omega) (fun r X1 hq hl => ?_)
  obtain ⟨v, rfl, ⟨sc, hc2⟩, hM2⟩ := jagr_add l D g hC hMd hq (fun Y hY => c_M_apply l D g hY hC.2.1)
  refine kw_aload_n hB Z_law_260 rfl ?_
  refine kw_aload_n hB Z_law_261 rfl ?_
  refine kw_iload_n hB Z_law_262 rfl ?_
  refine kw_iconst hB Z_law_263 (v := nI 1) (by decide) ?_
  refine kn_iadd hB Z_law_264 ?_
  refine hld (by omega) Z_law_265 ?_
  refine kw_aload_n hB Z_law_266 rfl ?_
  refine kw_iload_n hB Z_law_267 rfl ?_
  refine kw_iconst hB Z_law_268 (v := nI 2) (by decide) ?_
  refine kn_iadd hB Z_law_269 ?_
  refine hld (by omega) Z_law_270 ?_
  refine kw_aload_n hB Z_law_271 rfl ?_
  refine kw_iload_n hB Z_law_272 rfl ?_
  refine kw_iconst hB Z_law_273 (v := nI 3) (by decide) ?_
  refine kn_iadd hB Z_law_274 ?_
  refine hld (by omega) Z_law_275 ?_
  refine kw_callV hB Z_law_276 s_Z_30 im_M_apply se_M_apply hc2 rfl rfl (As := [.int (xs (i + 1)), .int (xs (i + 2)), .int (xs (i + 3))]) (hM2) rfl (by decide) (Nat.le_of_ble_eq_true rfl) (by omega) (by omega) (fun r X1 hq hl => ?_)
  obtain ⟨rfl, hb2⟩ := hq
  exact kw_icmp_eq hB Z_law_279 (fun _ => k _ hb2 (by omega)) (fun z => absurd rfl z)
end JLW_apply
section JLW_sink
variable {l : Launch} {D : va_G} {g : Nat × Nat} {Kk : ja_K} {xs : Nat → Int32} {Ln i : Nat} {X : ja_H}
set_option maxHeartbeats 8000000 in
set_option maxRecDepth 100000 in
theorem lc_sink (hB : ja_B l D g m_Z_law 14 600000 7302250 Kk) (hld : ∀ {j pc pc' : Nat} {loc st : List Value} {X : ja_H} {nc ns : Nat}, j < Ln → ja_at m_Z_law.2.1 pc pc' .iaload 1 → Kk pc' loc (.int (xs j) :: st) X nc ns → Kk pc loc (.int (nI j) :: .ref 0 :: st) X nc ns) (hb : jBoth X) (hi : i + 4 ≤ Ln) (k : ∀ X' : ja_H, jBoth X' → X'.length = X.length → Kk 756 [.ref 0, .ref 1, .ref 145, .int (nI i)] [] X' 170 44127) : Kk 284 [.ref 0, .ref 1, .ref 145, .int (nI i)] [] X 170 44127 := by
  obtain ⟨n, s, K, V, A, B, M, L, σ, md, ip, wd, pl, hn, ed, hC, hMd⟩ := id hb
  refine kw_aload_n hB Z_law_284 rfl ?_
  refine kw_aload_n hB Z_law_285 rfl ?_
  refine kw_iload_n hB Z_law_286 rfl ?_
  refine kw_iconst hB Z_law_287 (v := nI 1) (by decide) ?_
  refine kn_iadd hB Z_law_288 ?_
  refine hld (by omega) Z_law_289 ?_
  refine kw_callV hB Z_law_290 s_Z_31 im_T_sink se_T_sink hC.1 rfl rfl (As := [.int (xs (i + 1))]) (c_T_sink l D g hC) rfl (by decide) (Nat.le_of_ble_eq_true rfl) (by omega) (by omega) (fun r X1 hq hl => ?_)
  obtain ⟨v, rfl, ⟨sc, hc2⟩, hM2⟩ := jagr_add l D g hC hMd hq (fun Y hY => c_M_sink l D g hY hC.2.1)
  refine kw_aload_n hB Z_law_293 rfl ?_
  refine kw_aload_n hB Z_law_294 rfl ?_
  refine kw_iload_n hB Z_law_295 rfl ?_
  refine kw_iconst hB Z_law_296 (v := nI 1) (by decide) ?_
  refine kn_iadd hB Z_law_297 ?_
  refine hld (by omega) Z_law_298 ?_
  refine kw_callV hB Z_law_299 s_Z_35 im_M_sink se_M_sink hc2 rfl rfl (As := [.int (xs (i + 1))]) (hM2) rfl (by decide) (Nat.le_of_ble_eq_true rfl) (by omega) (by omega) (fun r X1 hq hl => ?_)
  obtain ⟨rfl, hb2⟩ := hq
  exact kw_icmp_eq hB Z_law_302 (fun _ => k _ hb2 (by omega)) (fun z => absurd rfl z)
end JLW_sink
section JLW_when
variable {l : Launch} {D : va_G} {g : Nat × Nat} {Kk : ja_K} {xs : Nat → Int32} {Ln i : Nat} {X : ja_H}
set_option maxHeartbeats 8000000 in
set_option maxRecDepth 100000 in
theorem lc_when (hB : ja_B l D g m_Z_law 14 600000 7302250 Kk) (hld : ∀ {j pc pc' : Nat} {loc st : List Value} {X : ja_H} {nc ns : Nat}, j < Ln → ja_at m_Z_law.2.1 pc pc' .iaload 1 → Kk pc' loc (.int (xs j) :: st) X nc ns → Kk pc loc (.int (nI j) :: .ref 0 :: st) X nc ns) (hb : jBoth X) (hi : i + 4 ≤ Ln) (k : ∀ X' : ja_H, jBoth X' → X'.length = X.length → Kk 756 [.ref 0, .ref 1, .ref 145, .int (nI i)] [] X' 170 44127) : Kk 307 [.ref 0, .ref 1, .ref 145, .int (nI i)] [] X 170 44127 := by
  obtain ⟨n, s, K, V, A, B, M, L, σ, md, ip, wd, pl, hn, ed, hC, hMd⟩ := id hb
  refine kw_aload_n hB Z_law_307 rfl ?_
  refine kw_aload_n hB Z_law_308 rfl ?_
  refine kw_iload_n hB Z_law_309 rfl ?_
  refine kw_iconst hB Z_law_310 (v := nI 1) (by decide) ?_
  refine kn_iadd hB Z_law_311 ?_
  refine hld (by omega) Z_law_312 ?_
  refine kw_aload_n hB Z_law_313 rfl ?_
  refine kw_iload_n hB Z_law_314 rfl ?_
  refine kw_iconst hB Z_law_315 (v := nI 2) (by decide) ?_
  refine kn_iadd hB Z_law_316 ?_
  refine hld (by omega) Z_law_317 ?_
  refine kw_aload_n hB Z_law_318 rfl ?_
  refine kw_iload_n hB Z_law_319 rfl ?_
  refine kw_iconst hB Z_law_320 (v := nI 3) (by decide) ?_
  refine kn_iadd hB Z_law_321 ?_
  refine hld (by omega) Z_law_322 ?_
  refine kw_callV hB Z_law_323 s_Z_36 im_T_when se_T_when hC.1 rfl rfl (As := [.int (xs (i + 1)), .int (xs (i + 2)), .int (xs (i + 3))]) (c_T_when l D g hC) rfl (by decide) (Nat.le_of_ble_eq_true rfl) (by omega) (by omega) (fun r X1 hq hl => ?_)
  obtain ⟨v, rfl, ⟨sc, hc2⟩, hM2⟩ := jagr_add l D g hC hMd hq (fun Y hY => c_M_when l D g hY hC.2.1)
  refine kw_aload_n hB Z_law_326 rfl ?_
  refine kw_aload_n hB Z_law_327 rfl ?_
  refine kw_iload_n hB Z_law_328 rfl ?_
  refine kw_iconst hB Z_law_329 (v := nI 1) (by decide) ?_
  refine kn_iadd hB Z_law_330 ?_
  refine hld (by omega) Z_law_331 ?_
  refine kw_aload_n hB Z_law_332 rfl ?_
  refine kw_iload_n hB Z_law_333 rfl ?_
  refine kw_iconst hB Z_law_334 (v := nI 2) (by decide) ?_
  refine kn_iadd hB Z_law_335 ?_
  refine hld (by omega) Z_law_336 ?_
  refine kw_aload_n hB Z_law_337 rfl ?_
  refine kw_iload_n hB Z_law_338 rfl ?_
  refine kw_iconst hB Z_law_339 (v := nI 3) (by decide) ?_
  refine kn_iadd hB Z_law_340 ?_
  refine hld (by omega) Z_law_341 ?_
  refine kw_callV hB Z_law_342 s_Z_39 im_M_when se_M_when hc2 rfl rfl (As := [.int (xs (i + 1)), .int (xs (i + 2)), .int (xs (i + 3))]) (hM2) rfl (by decide) (Nat.le_of_ble_eq_true rfl) (by omega) (by omega) (fun r X1 hq hl => ?_)
  obtain ⟨rfl, hb2⟩ := hq
  exact kw_icmp_eq hB Z_law_345 (fun _ => k _ hb2 (by omega)) (fun z => absurd rfl z)
end JLW_when
section JLW_other
variable {l : Launch} {D : va_G} {g : Nat × Nat} {Kk : ja_K} {xs : Nat → Int32} {Ln i : Nat} {X : ja_H}
set_option maxHeartbeats 8000000 in
set_option maxRecDepth 100000 in
theorem lc_other (hB : ja_B l D g m_Z_law 14 600000 7302250 Kk) (hld : ∀ {j pc pc' : Nat} {loc st : List Value} {X : ja_H} {nc ns : Nat}, j < Ln → ja_at m_Z_law.2.1 pc pc' .iaload 1 → Kk pc' loc (.int (xs j) :: st) X nc ns → Kk pc loc (.int (nI j) :: .ref 0 :: st) X nc ns) (hb : jBoth X) (hi : i + 4 ≤ Ln) (k : ∀ X' : ja_H, jBoth X' → X'.length = X.length → Kk 756 [.ref 0, .ref 1, .ref 145, .int (nI i)] [] X' 170 44127) : Kk 350 [.ref 0, .ref 1, .ref 145, .int (nI i)] [] X 170 44127 := by
  obtain ⟨n, s, K, V, A, B, M, L, σ, md, ip, wd, pl, hn, ed, hC, hMd⟩ := id hb
  refine kw_aload_n hB Z_law_350 rfl ?_
  refine kw_callV hB Z_law_351 s_Z_40 im_T_other se_T_other hC.1 rfl rfl (As := []) (c_T_other l D g hC) rfl (by decide) (Nat.le_of_ble_eq_true rfl) (by omega) (by omega) (fun r X1 hq hl => ?_)
  obtain ⟨v, rfl, ⟨sc, hc2⟩, hM2⟩ := jagr_add l D g hC hMd hq (fun Y hY => c_M_other l D g hY hC.2.1)
  refine kw_aload_n hB Z_law_354 rfl ?_
  refine kw_callV hB Z_law_355 s_Z_44 im_M_other se_M_other hc2 rfl rfl (As := []) (hM2) rfl (by decide) (Nat.le_of_ble_eq_true rfl) (by omega) (by omega) (fun r X1 hq hl => ?_)
  obtain ⟨rfl, hb2⟩ := hq
  exact kw_icmp_eq hB Z_law_358 (fun _ => k _ hb2 (by omega)) (fun z => absurd rfl z)
end JLW_other
section JLW_loop
variable {l : Launch} {D : va_G} {g : Nat × Nat} {Kk : ja_K} {xs : Nat → Int32} {Ln i : Nat} {X : ja_H}
set_option maxHeartbeats 8000000 in
set_option maxRecDepth 100000 in
theorem lc_loop (hB : ja_B l D g m_Z_law 14 600000 7302250 Kk) (hld : ∀ {j pc pc' : Nat} {loc st : List Value} {X : ja_H} {nc ns : Nat}, j < Ln → ja_at m_Z_law.2.1 pc pc' .iaload 1 → Kk pc' loc (.int (xs j) :: st) X nc ns → Kk pc loc (.int (nI j) :: .ref 0 :: st) X nc ns) (hb : jBoth X) (hi : i + 4 ≤ Ln) (k : ∀ X' : ja_H, jBoth X' → X'.length = X.length → Kk 756 [.ref 0, .ref 1, .ref 145, .int (nI i)] [] X' 170 44127) : Kk 363 [.ref 0, .ref 1, .ref 145, .int (nI i)] [] X 170 44127 := by
  obtain ⟨n, s, K, V, A, B, M, L, σ, md, ip, wd, pl, hn, ed, hC, hMd⟩ := id hb
  refine kw_aload_n hB Z_law_363 rfl ?_
  refine kw_aload_n hB Z_law_364 rfl ?_
  refine kw_iload_n hB Z_law_365 rfl ?_
  refine kw_iconst hB Z_law_366 (v := nI 1) (by decide) ?_
  refine kn_iadd hB Z_law_367 ?_
  refine hld (by omega) Z_law_368 ?_
  refine kw_aload_n hB Z_law_369 rfl ?_
  refine kw_iload_n hB Z_law_370 rfl ?_
  refine kw_iconst hB Z_law_371 (v := nI 2) (by decide) ?_
  refine kn_iadd hB Z_law_372 ?_
  refine hld (by omega) Z_law_373 ?_
  refine kw_aload_n hB Z_law_374 rfl ?_
  refine kw_iload_n hB Z_law_375 rfl ?_
  refine kw_iconst hB Z_law_376 (v := nI 3) (by decide) ?_
  refine kn_iadd hB Z_law_377 ?_
  refine hld (by omega) Z_law_378 ?_
  refine kw_callV hB Z_law_379 s_Z_45 im_T_loop se_T_loop hC.1 rfl rfl (As := [.int (xs (i + 1)), .int (xs (i + 2)), .int (xs (i + 3))]) (c_T_loop l D g hC) rfl (by decide) (Nat.le_of_ble_eq_true rfl) (by omega) (by omega) (fun r X1 hq hl => ?_)
  obtain ⟨v, rfl, ⟨sc, hc2⟩, hM2⟩ := jagr_add l D g hC hMd hq (fun Y hY => c_M_loop l D g hY hC.2.1)
  refine kw_aload_n hB Z_law_382 rfl ?_
  refine kw_aload_n hB Z_law_383 rfl ?_
  refine kw_iload_n hB Z_law_384 rfl ?_
  refine kw_iconst hB Z_law_385 (v := nI 1) (by decide) ?_
  refine kn_iadd hB Z_law_386 ?_
  refine hld (by omega) Z_law_387 ?_
  refine kw_aload_n hB Z_law_388 rfl ?_
  refine kw_iload_n hB Z_law_389 rfl ?_
  refine kw_iconst hB Z_law_390 (v := nI 2) (by decide) ?_
  refine kn_iadd hB Z_law_391 ?_
  refine hld (by omega) Z_law_392 ?_
  refine kw_aload_n hB Z_law_393 rfl ?_
  refine kw_iload_n hB Z_law_394 rfl ?_
  refine kw_iconst hB Z_law_395 (v := nI 3) (by decide) ?_
  refine kn_iadd hB Z_law_396 ?_
  refine hld (by omega) Z_law_397 ?_
  refine kw_callV hB Z_law_398 s_Z_48 im_M_loop se_M_loop hc2 rfl rfl (As := [.int (xs (i + 1)), .int (xs (i + 2)), .int (xs (i + 3))]) (hM2) rfl (by decide) (Nat.le_of_ble_eq_true rfl) (by omega) (by omega) (fun r X1 hq hl => ?_)
  obtain ⟨rfl, hb2⟩ := hq
  exact kw_icmp_eq hB Z_law_401 (fun _ => k _ hb2 (by omega)) (fun z => absurd rfl z)
end JLW_loop
section JLW_end
variable {l : Launch} {D : va_G} {g : Nat × Nat} {Kk : ja_K} {xs : Nat → Int32} {Ln i : Nat} {X : ja_H}
set_option maxHeartbeats 8000000 in
set_option maxRecDepth 100000 in
theorem lc_end (hB : ja_B l D g m_Z_law 14 600000 7302250 Kk) (hld : ∀ {j pc pc' : Nat} {loc st : List Value} {X : ja_H} {nc ns : Nat}, j < Ln → ja_at m_Z_law.2.1 pc pc' .iaload 1 → Kk pc' loc (.int (xs j) :: st) X nc ns → Kk pc loc (.int (nI j) :: .ref 0 :: st) X nc ns) (hb : jBoth X) (hi : i + 4 ≤ Ln) (k : ∀ X' : ja_H, jBoth X' → X'.length = X.length → Kk 756 [.ref 0, .ref 1, .ref 145, .int (nI i)] [] X' 170 44127) : Kk 406 [.ref 0, .ref 1, .ref 145, .int (nI i)] [] X 170 44127 := by
  obtain ⟨n, s, K, V, A, B, M, L, σ, md, ip, wd, pl, hn, ed, hC, hMd⟩ := id hb
  refine kw_aload_n hB Z_law_406 rfl ?_
  refine kw_callV hB Z_law_407 s_Z_49 im_T_end se_T_end hC.1 rfl rfl (As := []) (c_T_end l D g hC) rfl (by decide) (Nat.le_of_ble_eq_true rfl) (by omega) (by omega) (fun r X1 hq hl => ?_)
  obtain ⟨v, rfl, ⟨sc, hc2⟩, hM2⟩ := jagr_add l D g hC hMd hq (fun Y hY => c_M_end l D g hY hC.2.1)
  refine kw_aload_n hB Z_law_410 rfl ?_
  refine kw_callV hB Z_law_411 s_Z_52 im_M_end se_M_end hc2 rfl rfl (As := []) (hM2) rfl (by decide) (Nat.le_of_ble_eq_true rfl) (by omega) (by omega) (fun r X1 hq hl => ?_)
  obtain ⟨rfl, hb2⟩ := hq
  exact kw_icmp_eq hB Z_law_414 (fun _ => k _ hb2 (by omega)) (fun z => absurd rfl z)
end JLW_end
section JLW_clear
variable {l : Launch} {D : va_G} {g : Nat × Nat} {Kk : ja_K} {xs : Nat → Int32} {Ln i : Nat} {X : ja_H}
set_option maxHeartbeats 8000000 in
set_option maxRecDepth 100000 in
theorem lc_clear (hB : ja_B l D g m_Z_law 14 600000 7302250 Kk) (hld : ∀ {j pc pc' : Nat} {loc st : List Value} {X : ja_H} {nc ns : Nat}, j < Ln → ja_at m_Z_law.2.1 pc pc' .iaload 1 → Kk pc' loc (.int (xs j) :: st) X nc ns → Kk pc loc (.int (nI j) :: .ref 0 :: st) X nc ns) (hb : jBoth X) (hi : i + 4 ≤ Ln) (k : ∀ X' : ja_H, jBoth X' → X'.length = X.length → Kk 756 [.ref 0, .ref 1, .ref 145, .int (nI i)] [] X' 170 44127) : Kk 419 [.ref 0, .ref 1, .ref 145, .int (nI i)] [] X 170 44127 := by
  obtain ⟨n, s, K, V, A, B, M, L, σ, md, ip, wd, pl, hn, ed, hC, hMd⟩ := id hb
  refine kw_aload_n hB Z_law_419 rfl ?_
  refine kw_callV hB Z_law_420 s_Z_53 im_T_clear se_T_clear hC.1 rfl rfl (As := []) (c_T_clear l D g hC) rfl (by decide) (Nat.le_of_ble_eq_true rfl) (by omega) (by omega) (fun r X1 hq hl => ?_)
  obtain ⟨v, rfl, ⟨sc, hc2⟩, hM2⟩ := jagr_clear l D g hMd hq
  refine kw_aload_n hB Z_law_423 rfl ?_
  refine kw_callV hB Z_law_424 s_Z_56 im_M_clear se_M_clear hc2 rfl rfl (As := []) (hM2) rfl (by decide) (Nat.le_of_ble_eq_true rfl) (by omega) (by omega) (fun r X1 hq hl => ?_)
  obtain ⟨rfl, hb2⟩ := hq
  exact kw_icmp_eq hB Z_law_427 (fun _ => k _ hb2 (by omega)) (fun z => absurd rfl z)
end JLW_clear
section JLW_analyse
variable {l : Launch} {D : va_G} {g : Nat × Nat} {Kk : ja_K} {xs : Nat → Int32} {Ln i : Nat} {X : ja_H}
set_option maxHeartbeats 8000000 in
set_option maxRecDepth 100000 in
theorem lc_analyse (hB : ja_B l D g m_Z_law 14 600000 7302250 Kk) (hld : ∀ {j pc pc' : Nat} {loc st : List Value} {X : ja_H} {nc ns : Nat}, j < Ln → ja_at m_Z_law.2.1 pc pc' .iaload 1 → Kk pc' loc (.int (xs j) :: st) X nc ns → Kk pc loc (.int (nI j) :: .ref 0 :: st) X nc ns) (hb : jBoth X) (hi : i + 4 ≤ Ln) (k : ∀ X' : ja_H, jBoth X' → X'.length = X.length → Kk 756 [.ref 0, .ref 1, .ref 145, .int (nI i)] [] X' 170 44127) : Kk 432 [.ref 0, .ref 1, .ref 145, .int (nI i)] [] X 170 44127 := by
  obtain ⟨n, s, K, V, A, B, M, L, σ, md, ip, wd, pl, hn, ed, hC, hMd⟩ := id hb
  refine kw_aload_n hB Z_law_432 rfl ?_
  refine kw_callV hB Z_law_433 s_Z_57 im_T_analyse se_T_analyse hC.1 rfl rfl (As := []) (c_T_analyse l D g hC) rfl (by decide) (Nat.le_of_ble_eq_true rfl) (by omega) (by omega) (fun r X1 hq hl => ?_)
  obtain ⟨v, rfl, ⟨sc, hc2⟩, hM2⟩ := jagr_analyse l D g hC hMd hq
  refine kw_aload_n hB Z_law_436 rfl ?_
  refine kw_callV hB Z_law_437 s_Z_60 im_M_analyse se_M_analyse hc2 rfl rfl (As := []) (hM2) rfl (by decide) (Nat.le_of_ble_eq_true rfl) (by omega) (by omega) (fun r X1 hq hl => ?_)
  obtain ⟨rfl, hb2⟩ := hq
  exact kw_icmp_eq hB Z_law_440 (fun _ => k _ hb2 (by omega)) (fun z => absurd rfl z)
end JLW_analyse
section JLW_size
variable {l : Launch} {D : va_G} {g : Nat × Nat} {Kk : ja_K} {xs : Nat → Int32} {Ln i : Nat} {X : ja_H}
set_option maxHeartbeats 8000000 in
set_option maxRecDepth 100000 in
theorem lc_size (hB : ja_B l D g m_Z_law 14 600000 7302250 Kk) (hld : ∀ {j pc pc' : Nat} {loc st : List Value} {X : ja_H} {nc ns : Nat}, j < Ln → ja_at m_Z_law.2.1 pc pc' .iaload 1 → Kk pc' loc (.int (xs j) :: st) X nc ns → Kk pc loc (.int (nI j) :: .ref 0 :: st) X nc ns) (hb : jBoth X) (hi : i + 4 ≤ Ln) (k : ∀ X' : ja_H, jBoth X' → X'.length = X.length → Kk 756 [.ref 0, .ref 1, .ref 145, .int (nI i)] [] X' 170 44127) : Kk 445 [.ref 0, .ref 1, .ref 145, .int (nI i)] [] X 170 44127 := by
  obtain ⟨n, s, K, V, A, B, M, L, σ, md, ip, wd, pl, hn, ed, hC, hMd⟩ := id hb
  refine kw_aload_n hB Z_law_445 rfl ?_
  refine kw_aload_n hB Z_law_446 rfl ?_
  refine kw_iload_n hB Z_law_447 rfl ?_
  refine kw_iconst hB Z_law_448 (v := nI 1) (by decide) ?_
  refine kn_iadd hB Z_law_449 ?_
  refine hld (by omega) Z_law_450 ?_
  refine kw_callV hB Z_law_451 s_Z_61 im_T_size se_T_size hC.1 rfl rfl (As := [.int (xs (i + 1))]) (c_T_size l D g hC) rfl (by decide) (Nat.le_of_ble_eq_true rfl) (by omega) (by omega) (fun r X1 hq hl => ?_)
  obtain ⟨rfl, hxeq⟩ := hq
  obtain rfl := hxeq.symm
  obtain ⟨⟨sc, hc2⟩, hM2⟩ := jagr_same l D g hb (c_M_size l D g (x := xs (i + 1)) hMd hC.2.1)
  refine kw_aload_n hB Z_law_454 rfl ?_
  refine kw_aload_n hB Z_law_455 rfl ?_
  refine kw_iload_n hB Z_law_456 rfl ?_
  refine kw_iconst hB Z_law_457 (v := nI 1) (by decide) ?_
  refine kn_iadd hB Z_law_458 ?_
  refine hld (by omega) Z_law_459 ?_
  refine kw_callV hB Z_law_460 s_Z_64 im_M_size se_M_size hc2 rfl rfl (As := [.int (xs (i + 1))]) (hM2) rfl (by decide) (Nat.le_of_ble_eq_true rfl) (by omega) (by omega) (fun r X1 hq hl => ?_)
  obtain ⟨rfl, hb2⟩ := hq
  exact kw_icmp_eq hB Z_law_463 (fun _ => k _ hb2 (by omega)) (fun z => absurd rfl z)
end JLW_size
section JLW_accepts
variable {l : Launch} {D : va_G} {g : Nat × Nat} {Kk : ja_K} {xs : Nat → Int32} {Ln i : Nat} {X : ja_H}
set_option maxHeartbeats 8000000 in
set_option maxRecDepth 100000 in
theorem lc_accepts (hB : ja_B l D g m_Z_law 14 600000 7302250 Kk) (hld : ∀ {j pc pc' : Nat} {loc st : List Value} {X : ja_H} {nc ns : Nat}, j < Ln → ja_at m_Z_law.2.1 pc pc' .iaload 1 → Kk pc' loc (.int (xs j) :: st) X nc ns → Kk pc loc (.int (nI j) :: .ref 0 :: st) X nc ns) (hb : jBoth X) (hi : i + 4 ≤ Ln) (k : ∀ X' : ja_H, jBoth X' → X'.length = X.length → Kk 756 [.ref 0, .ref 1, .ref 145, .int (nI i)] [] X' 170 44127) : Kk 468 [.ref 0, .ref 1, .ref 145, .int (nI i)] [] X 170 44127 := by
  obtain ⟨n, s, K, V, A, B, M, L, σ, md, ip, wd, pl, hn, ed, hC, hMd⟩ := id hb
  obtain ⟨w, hw, hwe⟩ := lN_any ((xs (i + 2)).toInt64 <<< ((nI 32).toInt64 &&& 63) ||| ((xs (i + 3)).toInt64 &&& 4294967295))
  refine kw_aload_n hB Z_law_468 rfl ?_
  refine kw_aload_n hB Z_law_469 rfl ?_
  refine kw_iload_n hB Z_law_470 rfl ?_
  refine kw_iconst hB Z_law_471 (v := nI 1) (by decide) ?_
  refine kn_iadd hB Z_law_472 ?_
  refine hld (by omega) Z_law_473 ?_
  refine kw_aload_n hB Z_law_474 rfl ?_
  refine kw_iload_n hB Z_law_475 rfl ?_
  refine kw_iconst hB Z_law_476 (v := nI 2) (by decide) ?_
  refine kn_iadd hB Z_law_477 ?_
  refine hld (by omega) Z_law_478 ?_
  refine kw_i2l hB Z_law_479 rfl ?_
  refine kw_bipush hB Z_law_480 (v := nI 32) (by decide) ?_
  refine kw_lshl hB Z_law_482 rfl ?_
  refine kw_aload_n hB Z_law_483 rfl ?_
  refine kw_iload_n hB Z_law_484 rfl ?_
  refine kw_iconst hB Z_law_485 (v := nI 3) (by decide) ?_
  refine kn_iadd hB Z_law_486 ?_
  refine hld (by omega) Z_law_487 ?_
  refine kw_i2l hB Z_law_488 rfl ?_
  refine kw_ldc2 hB Z_law_489 (v := 4294967295) (jm 1257 (by decide +kernel) rfl) ?_
  refine kw_land hB Z_law_492 ?_
  refine kw_lor hB Z_law_493 ?_
  rw [hwe]
  refine kw_callV hB Z_law_494 s_Z_67 im_T_accepts se_T_accepts hC.1 rfl rfl (As := [.int (xs (i + 1)), .long (lN w)]) (c_T_accepts l D g hC hw) rfl (by decide) (Nat.le_of_ble_eq_true rfl) (by omega) (by omega) (fun r X1 hq hl => ?_)
  obtain ⟨rfl, hxeq⟩ := hq
  obtain rfl := hxeq.symm
  obtain ⟨⟨sc, hc2⟩, hM2⟩ := jagr_same l D g hb (c_M_accepts l D g (x := xs (i + 1)) (w := w) hMd hC.2.1 hw)
  refine kw_aload_n hB Z_law_497 rfl ?_
  refine kw_aload_n hB Z_law_498 rfl ?_
  refine kw_iload_n hB Z_law_499 rfl ?_
  refine kw_iconst hB Z_law_500 (v := nI 1) (by decide) ?_
  refine kn_iadd hB Z_law_501 ?_
  refine hld (by omega) Z_law_502 ?_
  refine kw_aload_n hB Z_law_503 rfl ?_
  refine kw_iload_n hB Z_law_504 rfl ?_
  refine kw_iconst hB Z_law_505 (v := nI 2) (by decide) ?_
  refine kn_iadd hB Z_law_506 ?_
  refine hld (by omega) Z_law_507 ?_
  refine kw_i2l hB Z_law_508 rfl ?_
  refine kw_bipush hB Z_law_509 (v := nI 32) (by decide) ?_
  refine kw_lshl hB Z_law_511 rfl ?_
  refine kw_aload_n hB Z_law_512 rfl ?_
  refine kw_iload_n hB Z_law_513 rfl ?_
  refine kw_iconst hB Z_law_514 (v := nI 3) (by decide) ?_
  refine kn_iadd hB Z_law_515 ?_
  refine hld (by omega) Z_law_516 ?_
  refine kw_i2l hB Z_law_517 rfl ?_
  refine kw_ldc2 hB Z_law_518 (v := 4294967295) (jm 1257 (by decide +kernel) rfl) ?_
  refine kw_land hB Z_law_521 ?_
  refine kw_lor hB Z_law_522 ?_
  rw [hwe]
  refine kw_callV hB Z_law_523 s_Z_71 im_M_accepts se_M_accepts hc2 rfl rfl (As := [.int (xs (i + 1)), .long (lN w)]) (hM2) rfl (by decide) (Nat.le_of_ble_eq_true rfl) (by omega) (by omega) (fun r X1 hq hl => ?_)
  obtain ⟨rfl, hb2⟩ := hq
  exact kw_icmp_eq hB Z_law_526 (fun _ => k _ hb2 (by omega)) (fun z => absurd rfl z)
end JLW_accepts
section JLW_witness
variable {l : Launch} {D : va_G} {g : Nat × Nat} {Kk : ja_K} {xs : Nat → Int32} {Ln i : Nat} {X : ja_H}
set_option maxHeartbeats 8000000 in
set_option maxRecDepth 100000 in
theorem lc_witness (hB : ja_B l D g m_Z_law 14 600000 7302250 Kk) (hld : ∀ {j pc pc' : Nat} {loc st : List Value} {X : ja_H} {nc ns : Nat}, j < Ln → ja_at m_Z_law.2.1 pc pc' .iaload 1 → Kk pc' loc (.int (xs j) :: st) X nc ns → Kk pc loc (.int (nI j) :: .ref 0 :: st) X nc ns) (hb : jBoth X) (hi : i + 4 ≤ Ln) (k : ∀ X' : ja_H, jBoth X' → X'.length = X.length → Kk 756 [.ref 0, .ref 1, .ref 145, .int (nI i)] [] X' 170 44127) : Kk 531 [.ref 0, .ref 1, .ref 145, .int (nI i)] [] X 170 44127 := by
  obtain ⟨n, s, K, V, A, B, M, L, σ, md, ip, wd, pl, hn, ed, hC, hMd⟩ := id hb
  refine kw_aload_n hB Z_law_531 rfl ?_
  refine kw_aload_n hB Z_law_532 rfl ?_
  refine kw_iload_n hB Z_law_533 rfl ?_
  refine kw_iconst hB Z_law_534 (v := nI 1) (by decide) ?_
  refine kn_iadd hB Z_law_535 ?_
  refine hld (by omega) Z_law_536 ?_
  refine kw_aload_n hB Z_law_537 rfl ?_
  refine kw_iload_n hB Z_law_538 rfl ?_
  refine kw_iconst hB Z_law_539 (v := nI 2) (by decide) ?_
  refine kn_iadd hB Z_law_540 ?_
  refine hld (by omega) Z_law_541 ?_
  refine kw_callV hB Z_law_542 s_Z_72 im_T_witness se_T_witness hC.1 rfl rfl (As := [.int (xs (i + 1)), .int (xs (i + 2))]) (c_T_witness l D g hC) rfl (by decide) (Nat.le_of_ble_eq_true rfl) (by omega) (by omega) (fun r X1 hq hl => ?_)
  obtain ⟨rfl, hxeq⟩ := hq
  obtain rfl := hxeq.symm
  obtain ⟨⟨sc, hc2⟩, hM2⟩ := jagr_wit l D g (x := xs (i + 1)) (y := xs (i + 2)) hC hMd
  refine kw_aload_n hB Z_law_545 rfl ?_
  refine kw_aload_n hB Z_law_546 rfl ?_
  refine kw_iload_n hB Z_law_547 rfl ?_
  refine kw_iconst hB Z_law_548 (v := nI 1) (by decide) ?_
  refine kn_iadd hB Z_law_549 ?_
  refine hld (by omega) Z_law_550 ?_
  refine kw_aload_n hB Z_law_551 rfl ?_
  refine kw_iload_n hB Z_law_552 rfl ?_
  refine kw_iconst hB Z_law_553 (v := nI 2) (by decide) ?_
  refine kn_iadd hB Z_law_554 ?_
  refine hld (by omega) Z_law_555 ?_
  refine kw_callV hB Z_law_556 s_Z_75 im_M_witness se_M_witness hc2 rfl rfl (As := [.int (xs (i + 1)), .int (xs (i + 2))]) (hM2) rfl (by decide) (Nat.le_of_ble_eq_true rfl) (by omega) (by omega) (fun r X1 hq hl => ?_)
  obtain ⟨rfl, hb2⟩ := hq
  exact kw_icmp_eq hB Z_law_559 (fun _ => k _ hb2 (by omega)) (fun z => absurd rfl z)
end JLW_witness
section JLW_rounds
variable {l : Launch} {D : va_G} {g : Nat × Nat} {Kk : ja_K} {xs : Nat → Int32} {Ln i : Nat} {X : ja_H}
set_option maxHeartbeats 8000000 in
set_option maxRecDepth 100000 in
theorem lc_rounds (hB : ja_B l D g m_Z_law 14 600000 7302250 Kk) (hld : ∀ {j pc pc' : Nat} {loc st : List Value} {X : ja_H} {nc ns : Nat}, j < Ln → ja_at m_Z_law.2.1 pc pc' .iaload 1 → Kk pc' loc (.int (xs j) :: st) X nc ns → Kk pc loc (.int (nI j) :: .ref 0 :: st) X nc ns) (hb : jBoth X) (hi : i + 4 ≤ Ln) (k : ∀ X' : ja_H, jBoth X' → X'.length = X.length → Kk 756 [.ref 0, .ref 1, .ref 145, .int (nI i)] [] X' 170 44127) : Kk 564 [.ref 0, .ref 1, .ref 145, .int (nI i)] [] X 170 44127 := by
  obtain ⟨n, s, K, V, A, B, M, L, σ, md, ip, wd, pl, hn, ed, hC, hMd⟩ := id hb
  refine kw_aload_n hB Z_law_564 rfl ?_
  refine kw_aload_n hB Z_law_565 rfl ?_
  refine kw_iload_n hB Z_law_566 rfl ?_
  refine kw_iconst hB Z_law_567 (v := nI 1) (by decide) ?_
  refine kn_iadd hB Z_law_568 ?_
  refine hld (by omega) Z_law_569 ?_
  refine kw_callV hB Z_law_570 s_Z_76 im_T_rounds se_T_rounds hC.1 rfl rfl (As := [.int (xs (i + 1))]) (c_T_rounds l D g hC) rfl (by decide) (Nat.le_of_ble_eq_true rfl) (by omega) (by omega) (fun r X1 hq hl => ?_)
  obtain ⟨rfl, hxeq⟩ := hq
  obtain rfl := hxeq.symm
  obtain ⟨⟨sc, hc2⟩, hM2⟩ := jagr_same l D g hb (c_M_rounds l D g (x := xs (i + 1)) hMd hC.2.1)
  refine kw_aload_n hB Z_law_573 rfl ?_
  refine kw_aload_n hB Z_law_574 rfl ?_
  refine kw_iload_n hB Z_law_575 rfl ?_
  refine kw_iconst hB Z_law_576 (v := nI 1) (by decide) ?_
  refine kn_iadd hB Z_law_577 ?_
  refine hld (by omega) Z_law_578 ?_
  refine kw_callV hB Z_law_579 s_Z_79 im_M_rounds se_M_rounds hc2 rfl rfl (As := [.int (xs (i + 1))]) (hM2) rfl (by decide) (Nat.le_of_ble_eq_true rfl) (by omega) (by omega) (fun r X1 hq hl => ?_)
  obtain ⟨rfl, hb2⟩ := hq
  exact kw_icmp_eq hB Z_law_582 (fun _ => k _ hb2 (by omega)) (fun z => absurd rfl z)
end JLW_rounds
section JLW_give
variable {l : Launch} {D : va_G} {g : Nat × Nat} {Kk : ja_K} {xs : Nat → Int32} {Ln i : Nat} {X : ja_H}
set_option maxHeartbeats 8000000 in
set_option maxRecDepth 100000 in
theorem lc_give (hB : ja_B l D g m_Z_law 14 600000 7302250 Kk) (hld : ∀ {j pc pc' : Nat} {loc st : List Value} {X : ja_H} {nc ns : Nat}, j < Ln → ja_at m_Z_law.2.1 pc pc' .iaload 1 → Kk pc' loc (.int (xs j) :: st) X nc ns → Kk pc loc (.int (nI j) :: .ref 0 :: st) X nc ns) (hb : jBoth X) (hi : i + 4 ≤ Ln) (k : ∀ X' : ja_H, jBoth X' → X'.length = X.length → Kk 756 [.ref 0, .ref 1, .ref 145, .int (nI i)] [] X' 170 44127) : Kk 587 [.ref 0, .ref 1, .ref 145, .int (nI i)] [] X 170 44127 := by
  obtain ⟨n, s, K, V, A, B, M, L, σ, md, ip, wd, pl, hn, ed, hC, hMd⟩ := id hb
  refine kw_aload_n hB Z_law_587 rfl ?_
  refine kw_aload_n hB Z_law_588 rfl ?_
  refine kw_iload_n hB Z_law_589 rfl ?_
  refine kw_iconst hB Z_law_590 (v := nI 1) (by decide) ?_
  refine kn_iadd hB Z_law_591 ?_
  refine hld (by omega) Z_law_592 ?_
  refine kw_aload_n hB Z_law_593 rfl ?_
  refine kw_iload_n hB Z_law_594 rfl ?_
  refine kw_iconst hB Z_law_595 (v := nI 2) (by decide) ?_
  refine kn_iadd hB Z_law_596 ?_
  refine hld (by omega) Z_law_597 ?_
  refine kw_callV hB Z_law_598 s_Z_80 im_T_give se_T_give hC.1 rfl rfl (As := [.int (xs (i + 1)), .int (xs (i + 2))]) (c_T_give l D g hC) rfl (by decide) (Nat.le_of_ble_eq_true rfl) (by omega) (by omega) (fun r X1 hq hl => ?_)
  obtain ⟨v, rfl, ⟨sc, hc2⟩, hM2⟩ := jagr_give l D g hC hMd hq
  refine kw_aload_n hB Z_law_601 rfl ?_
  refine kw_aload_n hB Z_law_602 rfl ?_
  refine kw_iload_n hB Z_law_603 rfl ?_
  refine kw_iconst hB Z_law_604 (v := nI 1) (by decide) ?_
  refine kn_iadd hB Z_law_605 ?_
  refine hld (by omega) Z_law_606 ?_
  refine kw_aload_n hB Z_law_607 rfl ?_
  refine kw_iload_n hB Z_law_608 rfl ?_
  refine kw_iconst hB Z_law_609 (v := nI 2) (by decide) ?_
  refine kn_iadd hB Z_law_610 ?_
  refine hld (by omega) Z_law_611 ?_
  refine kw_callV hB Z_law_612 s_Z_84 im_M_give se_M_give hc2 rfl rfl (As := [.int (xs (i + 1)), .int (xs (i + 2))]) (hM2) rfl (by decide) (Nat.le_of_ble_eq_true rfl) (by omega) (by omega) (fun r X1 hq hl => ?_)
  obtain ⟨rfl, hb2⟩ := hq
  exact kw_icmp_eq hB Z_law_615 (fun _ => k _ hb2 (by omega)) (fun z => absurd rfl z)
end JLW_give
section JLW_run
variable {l : Launch} {D : va_G} {g : Nat × Nat} {Kk : ja_K} {xs : Nat → Int32} {Ln i : Nat} {X : ja_H}
set_option maxHeartbeats 8000000 in
set_option maxRecDepth 100000 in
theorem lc_run (hB : ja_B l D g m_Z_law 14 600000 7302250 Kk) (hld : ∀ {j pc pc' : Nat} {loc st : List Value} {X : ja_H} {nc ns : Nat}, j < Ln → ja_at m_Z_law.2.1 pc pc' .iaload 1 → Kk pc' loc (.int (xs j) :: st) X nc ns → Kk pc loc (.int (nI j) :: .ref 0 :: st) X nc ns) (hb : jBoth X) (hi : i + 4 ≤ Ln) (k : ∀ X' : ja_H, jBoth X' → X'.length = X.length → Kk 756 [.ref 0, .ref 1, .ref 145, .int (nI i)] [] X' 170 44127) : Kk 620 [.ref 0, .ref 1, .ref 145, .int (nI i)] [] X 170 44127 := by
  obtain ⟨n, s, K, V, A, B, M, L, σ, md, ip, wd, pl, hn, ed, hC, hMd⟩ := id hb
  refine kw_aload_n hB Z_law_620 rfl ?_
  refine kw_aload_n hB Z_law_621 rfl ?_
  refine kw_iload_n hB Z_law_622 rfl ?_
  refine kw_iconst hB Z_law_623 (v := nI 1) (by decide) ?_
  refine kn_iadd hB Z_law_624 ?_
  refine hld (by omega) Z_law_625 ?_
  refine kw_callV hB Z_law_626 s_Z_85 im_T_run se_T_run hC.1 rfl rfl (As := [.int (xs (i + 1))]) (c_T_run l D g hC) rfl (by decide) (Nat.le_of_ble_eq_true rfl) (by omega) (by omega) (fun r X1 hq hl => ?_)
  obtain ⟨v, rfl, ⟨sc, hc2⟩, hM2⟩ := jagr_run l D g hC hMd hq
  refine kw_aload_n hB Z_law_629 rfl ?_
  refine kw_aload_n hB Z_law_630 rfl ?_
  refine kw_iload_n hB Z_law_631 rfl ?_
  refine kw_iconst hB Z_law_632 (v := nI 1) (by decide) ?_
  refine kn_iadd hB Z_law_633 ?_
  refine hld (by omega) Z_law_634 ?_
  refine kw_callV hB Z_law_635 s_Z_88 im_M_run se_M_run hc2 rfl rfl (As := [.int (xs (i + 1))]) (hM2) rfl (by decide) (Nat.le_of_ble_eq_true rfl) (by omega) (by omega) (fun r X1 hq hl => ?_)
  obtain ⟨rfl, hb2⟩ := hq
  exact kw_icmp_eq hB Z_law_638 (fun _ => k _ hb2 (by omega)) (fun z => absurd rfl z)
end JLW_run
section JLW_ended
variable {l : Launch} {D : va_G} {g : Nat × Nat} {Kk : ja_K} {xs : Nat → Int32} {Ln i : Nat} {X : ja_H}
set_option maxHeartbeats 8000000 in
set_option maxRecDepth 100000 in
theorem lc_ended (hB : ja_B l D g m_Z_law 14 600000 7302250 Kk) (hld : ∀ {j pc pc' : Nat} {loc st : List Value} {X : ja_H} {nc ns : Nat}, j < Ln → ja_at m_Z_law.2.1 pc pc' .iaload 1 → Kk pc' loc (.int (xs j) :: st) X nc ns → Kk pc loc (.int (nI j) :: .ref 0 :: st) X nc ns) (hb : jBoth X) (hi : i + 4 ≤ Ln) (k : ∀ X' : ja_H, jBoth X' → X'.length = X.length → Kk 756 [.ref 0, .ref 1, .ref 145, .int (nI i)] [] X' 170 44127) : Kk 643 [.ref 0, .ref 1, .ref 145, .int (nI i)] [] X 170 44127 := by
  obtain ⟨n, s, K, V, A, B, M, L, σ, md, ip, wd, pl, hn, ed, hC, hMd⟩ := id hb
  refine kw_aload_n hB Z_law_643 rfl ?_
  refine kw_callV hB Z_law_644 s_Z_89 im_T_ended se_T_ended hC.1 rfl rfl (As := []) (c_T_ended l D g hC) rfl (by decide) (Nat.le_of_ble_eq_true rfl) (by omega) (by omega) (fun r X1 hq hl => ?_)
  obtain ⟨rfl, hxeq⟩ := hq
  obtain rfl := hxeq.symm
  obtain ⟨⟨sc, hc2⟩, hM2⟩ := jagr_same l D g hb (c_M_ended l D g hMd)
  refine kw_aload_n hB Z_law_647 rfl ?_
  refine kw_callV hB Z_law_648 s_Z_92 im_M_ended se_M_ended hc2 rfl rfl (As := []) (hM2) rfl (by decide) (Nat.le_of_ble_eq_true rfl) (by omega) (by omega) (fun r X1 hq hl => ?_)
  obtain ⟨rfl, hb2⟩ := hq
  exact kw_icmp_eq hB Z_law_651 (fun _ => k _ hb2 (by omega)) (fun z => absurd rfl z)
end JLW_ended
section JLW_passed
variable {l : Launch} {D : va_G} {g : Nat × Nat} {Kk : ja_K} {xs : Nat → Int32} {Ln i : Nat} {X : ja_H}
set_option maxHeartbeats 8000000 in
set_option maxRecDepth 100000 in
theorem lc_passed (hB : ja_B l D g m_Z_law 14 600000 7302250 Kk) (hld : ∀ {j pc pc' : Nat} {loc st : List Value} {X : ja_H} {nc ns : Nat}, j < Ln → ja_at m_Z_law.2.1 pc pc' .iaload 1 → Kk pc' loc (.int (xs j) :: st) X nc ns → Kk pc loc (.int (nI j) :: .ref 0 :: st) X nc ns) (hb : jBoth X) (hi : i + 4 ≤ Ln) (k : ∀ X' : ja_H, jBoth X' → X'.length = X.length → Kk 756 [.ref 0, .ref 1, .ref 145, .int (nI i)] [] X' 170 44127) : Kk 656 [.ref 0, .ref 1, .ref 145, .int (nI i)] [] X 170 44127 := by
  obtain ⟨n, s, K, V, A, B, M, L, σ, md, ip, wd, pl, hn, ed, hC, hMd⟩ := id hb
  refine kw_aload_n hB Z_law_656 rfl ?_
  refine kw_aload_n hB Z_law_657 rfl ?_
  refine kw_iload_n hB Z_law_658 rfl ?_
  refine kw_iconst hB Z_law_659 (v := nI 1) (by decide) ?_
  refine kn_iadd hB Z_law_660 ?_
  refine hld (by omega) Z_law_661 ?_
  refine kw_callV hB Z_law_662 s_Z_93 im_T_passed se_T_passed hC.1 rfl rfl (As := [.int (xs (i + 1))]) (c_T_passed l D g hC) rfl (by decide) (Nat.le_of_ble_eq_true rfl) (by omega) (by omega) (fun r X1 hq hl => ?_)
  obtain ⟨rfl, hxeq⟩ := hq
  obtain rfl := hxeq.symm
  obtain ⟨⟨sc, hc2⟩, hM2⟩ := jagr_same l D g hb (c_M_passed l D g (x := xs (i + 1)) hMd hC.2.2.2.2.2.2.2.2)
  refine kw_aload_n hB Z_law_665 rfl ?_
  refine kw_aload_n hB Z_law_666 rfl ?_
  refine kw_iload_n hB Z_law_667 rfl ?_
  refine kw_iconst hB Z_law_668 (v := nI 1) (by decide) ?_
  refine kn_iadd hB Z_law_669 ?_
  refine hld (by omega) Z_law_670 ?_
  refine kw_callV hB Z_law_671 s_Z_97 im_M_passed se_M_passed hc2 rfl rfl (As := [.int (xs (i + 1))]) (hM2) rfl (by decide) (Nat.le_of_ble_eq_true rfl) (by omega) (by omega) (fun r X1 hq hl => ?_)
  obtain ⟨rfl, hb2⟩ := hq
  refine kw_lcmp hB Z_law_674 ?_
  exact kw_if_eq hB Z_law_675 (fun _ => k _ hb2 (by omega)) (fun z => absurd (by simp [lg_cmp]) z)
end JLW_passed
section JLW_place
variable {l : Launch} {D : va_G} {g : Nat × Nat} {Kk : ja_K} {xs : Nat → Int32} {Ln i : Nat} {X : ja_H}
set_option maxHeartbeats 8000000 in
set_option maxRecDepth 100000 in
theorem lc_place (hB : ja_B l D g m_Z_law 14 600000 7302250 Kk) (hld : ∀ {j pc pc' : Nat} {loc st : List Value} {X : ja_H} {nc ns : Nat}, j < Ln → ja_at m_Z_law.2.1 pc pc' .iaload 1 → Kk pc' loc (.int (xs j) :: st) X nc ns → Kk pc loc (.int (nI j) :: .ref 0 :: st) X nc ns) (hb : jBoth X) (hi : i + 4 ≤ Ln) (k : ∀ X' : ja_H, jBoth X' → X'.length = X.length → Kk 756 [.ref 0, .ref 1, .ref 145, .int (nI i)] [] X' 170 44127) : Kk 680 [.ref 0, .ref 1, .ref 145, .int (nI i)] [] X 170 44127 := by
  obtain ⟨n, s, K, V, A, B, M, L, σ, md, ip, wd, pl, hn, ed, hC, hMd⟩ := id hb
  refine kw_aload_n hB Z_law_680 rfl ?_
  refine kw_aload_n hB Z_law_681 rfl ?_
  refine kw_iload_n hB Z_law_682 rfl ?_
  refine kw_iconst hB Z_law_683 (v := nI 1) (by decide) ?_
  refine kn_iadd hB Z_law_684 ?_
  refine hld (by omega) Z_law_685 ?_
  refine kw_callV hB Z_law_686 s_Z_98 im_T_place se_T_place hC.1 rfl rfl (As := [.int (xs (i + 1))]) (c_T_place l D g hC) rfl (by decide) (Nat.le_of_ble_eq_true rfl) (by omega) (by omega) (fun r X1 hq hl => ?_)
  obtain ⟨rfl, hxeq⟩ := hq
  obtain rfl := hxeq.symm
  obtain ⟨⟨sc, hc2⟩, hM2⟩ := jagr_same l D g hb (c_M_place l D g (x := xs (i + 1)) hMd hC.2.2.2.2.2.2.2.2)
  refine kw_aload_n hB Z_law_689 rfl ?_
  refine kw_aload_n hB Z_law_690 rfl ?_
  refine kw_iload_n hB Z_law_691 rfl ?_
  refine kw_iconst hB Z_law_692 (v := nI 1) (by decide) ?_
  refine kn_iadd hB Z_law_693 ?_
  refine hld (by omega) Z_law_694 ?_
  refine kw_callV hB Z_law_695 s_Z_101 im_M_place se_M_place hc2 rfl rfl (As := [.int (xs (i + 1))]) (hM2) rfl (by decide) (Nat.le_of_ble_eq_true rfl) (by omega) (by omega) (fun r X1 hq hl => ?_)
  obtain ⟨rfl, hb2⟩ := hq
  exact kw_icmp_eq hB Z_law_698 (fun _ => k _ hb2 (by omega)) (fun z => absurd rfl z)
end JLW_place
section JLW_attack
variable {l : Launch} {D : va_G} {g : Nat × Nat} {Kk : ja_K} {xs : Nat → Int32} {Ln i : Nat} {X : ja_H}
set_option maxHeartbeats 8000000 in
set_option maxRecDepth 100000 in
theorem lc_attack (hB : ja_B l D g m_Z_law 14 600000 7302250 Kk) (hld : ∀ {j pc pc' : Nat} {loc st : List Value} {X : ja_H} {nc ns : Nat}, j < Ln → ja_at m_Z_law.2.1 pc pc' .iaload 1 → Kk pc' loc (.int (xs j) :: st) X nc ns → Kk pc loc (.int (nI j) :: .ref 0 :: st) X nc ns) (hb : jBoth X) (hi : i + 4 ≤ Ln) (k : ∀ X' : ja_H, jBoth X' → X'.length = X.length → Kk 756 [.ref 0, .ref 1, .ref 145, .int (nI i)] [] X' 170 44127) : Kk 703 [.ref 0, .ref 1, .ref 145, .int (nI i)] [] X 170 44127 := by
  obtain ⟨n, s, K, V, A, B, M, L, σ, md, ip, wd, pl, hn, ed, hC, hMd⟩ := id hb
  obtain ⟨w, hw, hwe⟩ := lN_any ((xs (i + 1)).toInt64 <<< ((nI 32).toInt64 &&& 63) ||| ((xs (i + 2)).toInt64 &&& 4294967295))
  refine kw_aload_n hB Z_law_703 rfl ?_
  refine kw_aload_n hB Z_law_704 rfl ?_
  refine kw_iload_n hB Z_law_705 rfl ?_
  refine kw_iconst hB Z_law_706 (v := nI 1) (by decide) ?_
  refine kn_iadd hB Z_law_707 ?_
  refine hld (by omega) Z_law_708 ?_
  refine kw_i2l hB Z_law_709 rfl ?_
  refine kw_bipush hB Z_law_710 (v := nI 32) (by decide) ?_
  refine kw_lshl hB Z_law_712 rfl ?_
  refine kw_aload_n hB Z_law_713 rfl ?_
  refine kw_iload_n hB Z_law_714 rfl ?_
  refine kw_iconst hB Z_law_715 (v := nI 2) (by decide) ?_
  refine kn_iadd hB Z_law_716 ?_
  refine hld (by omega) Z_law_717 ?_
  refine kw_i2l hB Z_law_718 rfl ?_
  refine kw_ldc2 hB Z_law_719 (v := 4294967295) (jm 1257 (by decide +kernel) rfl) ?_
  refine kw_land hB Z_law_722 ?_
  refine kw_lor hB Z_law_723 ?_
  rw [hwe]
  refine kw_callV hB Z_law_724 s_Z_102 im_T_attack se_T_attack hC.1 rfl rfl (As := [.long (lN w)]) (c_T_attack l D g hw) rfl (by decide) (Nat.le_of_ble_eq_true rfl) (by omega) (by omega) (fun r X1 hq hl => ?_)
  obtain ⟨rfl, hxeq⟩ := hq
  obtain rfl := hxeq.symm
  obtain ⟨⟨sc, hc2⟩, hM2⟩ := jagr_same l D g hb (c_M_attack l D g (w := w) (hb.cm.elim fun sc z => ⟨_, z⟩) hw)
  refine kw_aload_n hB Z_law_727 rfl ?_
  refine kw_aload_n hB Z_law_728 rfl ?_
  refine kw_iload_n hB Z_law_729 rfl ?_
  refine kw_iconst hB Z_law_730 (v := nI 1) (by decide) ?_
  refine kn_iadd hB Z_law_731 ?_
  refine hld (by omega) Z_law_732 ?_
  refine kw_i2l hB Z_law_733 rfl ?_
  refine kw_bipush hB Z_law_734 (v := nI 32) (by decide) ?_
  refine kw_lshl hB Z_law_736 rfl ?_
  refine kw_aload_n hB Z_law_737 rfl ?_
  refine kw_iload_n hB Z_law_738 rfl ?_
  refine kw_iconst hB Z_law_739 (v := nI 2) (by decide) ?_
  refine kn_iadd hB Z_law_740 ?_
  refine hld (by omega) Z_law_741 ?_
  refine kw_i2l hB Z_law_742 rfl ?_
  refine kw_ldc2 hB Z_law_743 (v := 4294967295) (jm 1257 (by decide +kernel) rfl) ?_
  refine kw_land hB Z_law_746 ?_
  refine kw_lor hB Z_law_747 ?_
  rw [hwe]
  refine kw_callV hB Z_law_748 s_Z_106 im_M_attack se_M_attack hc2 rfl rfl (As := [.long (lN w)]) (hM2) rfl (by decide) (Nat.le_of_ble_eq_true rfl) (by omega) (by omega) (fun r X1 hq hl => ?_)
  obtain ⟨rfl, hb2⟩ := hq
  exact kw_icmp_eq hB Z_law_751 (fun _ => k _ hb2 (by omega)) (fun z => absurd rfl z)
end JLW_attack
