def c_law_0 (n : Nat) (u1 : Int32) (u2 : Int32) (u3 : Int32) (u4 : Int32) (u5 : Int32) (μ : kbM) : Option kbM :=
  (f_KB_feed u1 u2 u3 u4 u5 μ).bind fun x1 =>
  (f_MD_feed n u1 u2 u3 u4 u5 x1.2).bind fun x2 =>
  if x1.1 = x2.1 then
    some x2.2
  else
    none
theorem cR_law_0 {l : Launch} (hl : l.stackTraces = false) (n : Nat) {b L j : Nat} {xs : Nat → Int32} {i : Int32} (hI : kbIdx L j i) {ck cn : Nat} (hck : ck + 4 ≤ 601024) (hcn : cn + 24 ≤ 7293034) (u1 : Int32) (u2 : Int32) (u3 : Int32) (u4 : Int32) (u5 : Int32) (hu1 : xs (j + 1) = u1) (hu2 : xs (j + 2) = u2) (hu3 : xs (j + 3) = u3) (hu4 : xs (j + 4) = u4) (hu5 : xs (j + 5) = u5) (μ : kbM) {P : kbM → Prop} (h : kbG (c_law_0 n u1 u2 u3 u4 u5 μ) P) (kk : ∀ μ' : kbM, P μ' → kbY l ML_law [] room_1 (ck + 4) (cn + 24) (kbFlaw b L xs) 2000 [some (.ref 4000), some (.ref 0), some (.ref 57), some (.ref 97), some (.int i), none, none, none] [] μ') : kbY l ML_law [] room_1 ck cn (kbFlaw b L xs) 196 [some (.ref 4000), some (.ref 0), some (.ref 57), some (.ref 97), some (.int i), none, none, none] [] μ := by
  unfold c_law_0 at h
  refine y_aload_n dL_law_196 rfl ?_
  refine y_aload_n dL_law_197 rfl ?_
  refine y_iload dL_law_198 rfl ?_
  refine y_iconst 1 dL_law_200 (by decide) ?_
  refine y_iadd dL_law_201 ?_
  refine y_sld (j + 1) (hI 1 (by decide)).1 (hI 1 (by decide)).2 dL_law_202 ?_
  rw [hu1]
  refine y_aload_n dL_law_203 rfl ?_
  refine y_iload dL_law_204 rfl ?_
  refine y_iconst 2 dL_law_206 (by decide) ?_
  refine y_iadd dL_law_207 ?_
  refine y_sld (j + 2) (hI 2 (by decide)).1 (hI 2 (by decide)).2 dL_law_208 ?_
  rw [hu2]
  refine y_aload_n dL_law_209 rfl ?_
  refine y_iload dL_law_210 rfl ?_
  refine y_iconst 3 dL_law_212 (by decide) ?_
  refine y_iadd dL_law_213 ?_
  refine y_sld (j + 3) (hI 3 (by decide)).1 (hI 3 (by decide)).2 dL_law_214 ?_
  rw [hu3]
  refine y_aload_n dL_law_215 rfl ?_
  refine y_iload dL_law_216 rfl ?_
  refine y_iconst 4 dL_law_218 (by decide) ?_
  refine y_iadd dL_law_219 ?_
  refine y_sld (j + 4) (hI 4 (by decide)).1 (hI 4 (by decide)).2 dL_law_220 ?_
  rw [hu4]
  refine y_aload_n dL_law_221 rfl ?_
  refine y_iload dL_law_222 rfl ?_
  refine y_iconst 5 dL_law_224 (by decide) ?_
  refine y_iadd dL_law_225 ?_
  refine y_sld (j + 5) (hI 5 (by decide)).1 (hI 5 (by decide)).2 dL_law_226 ?_
  rw [hu5]
  obtain ⟨x1, hx0, h⟩ := kbG_bind h
  refine y_invV_i cvL_95 sh0 rfl (sp_KB_feed u1 u2 u3 u4 u5 μ hx0) rfl rfl (Nat.le_of_ble_eq_true rfl) (kbRo_law (Nat.le_of_ble_eq_true rfl) (Nat.le_of_ble_eq_true rfl) (by omega) (by omega)) dL_law_227 ?_
  refine y_aload_n dL_law_230 rfl ?_
  refine y_aload_n dL_law_231 rfl ?_
  refine y_iload dL_law_232 rfl ?_
  refine y_iconst 1 dL_law_234 (by decide) ?_
  refine y_iadd dL_law_235 ?_
  refine y_sld (j + 1) (hI 1 (by decide)).1 (hI 1 (by decide)).2 dL_law_236 ?_
  rw [hu1]
  refine y_aload_n dL_law_237 rfl ?_
  refine y_iload dL_law_238 rfl ?_
  refine y_iconst 2 dL_law_240 (by decide) ?_
  refine y_iadd dL_law_241 ?_
  refine y_sld (j + 2) (hI 2 (by decide)).1 (hI 2 (by decide)).2 dL_law_242 ?_
  rw [hu2]
  refine y_aload_n dL_law_243 rfl ?_
  refine y_iload dL_law_244 rfl ?_
  refine y_iconst 3 dL_law_246 (by decide) ?_
  refine y_iadd dL_law_247 ?_
  refine y_sld (j + 3) (hI 3 (by decide)).1 (hI 3 (by decide)).2 dL_law_248 ?_
  rw [hu3]
  refine y_aload_n dL_law_249 rfl ?_
  refine y_iload dL_law_250 rfl ?_
  refine y_iconst 4 dL_law_252 (by decide) ?_
  refine y_iadd dL_law_253 ?_
  refine y_sld (j + 4) (hI 4 (by decide)).1 (hI 4 (by decide)).2 dL_law_254 ?_
  rw [hu4]
  refine y_aload_n dL_law_255 rfl ?_
  refine y_iload dL_law_256 rfl ?_
  refine y_iconst 5 dL_law_258 (by decide) ?_
  refine y_iadd dL_law_259 ?_
  refine y_sld (j + 5) (hI 5 (by decide)).1 (hI 5 (by decide)).2 dL_law_260 ?_
  rw [hu5]
  obtain ⟨x2, hx0, h⟩ := kbG_bind h
  refine y_invV_i cvL_99 sh57 rfl (sp_MD_feed n u1 u2 u3 u4 u5 x1.2 hx0) rfl rfl (Nat.le_of_ble_eq_true rfl) (kbRo_law (Nat.le_of_ble_eq_true rfl) (Nat.le_of_ble_eq_true rfl) (by omega) (by omega)) dL_law_261 ?_
  refine y_icmp_eq 2000 dL_law_264 (by decide) (fun hc => ?_) (fun hc => ?_)
  · replace h := kbG_t hc h
    refine y_le [some (.ref 4000), some (.ref 0), some (.ref 57), some (.ref 97), some (.int i), none, none, none] ⟨rfl, ⟨rfl, ⟨rfl, ⟨rfl, ⟨rfl, trivial⟩⟩⟩⟩⟩ ?_
    exact y_widen (by omega) (by omega) (kk _ (kbG_some h))
  · replace h := kbG_f hc h
    exact absurd h kbG_none
def c_law_1 (n : Nat) (u1 : Int32) (μ : kbM) : Option kbM :=
  (f_L_book n u1 μ).bind fun x1 =>
  (f_MD_book n u1 x1.2).bind fun x2 =>
  (f_MD_thrown x2.2).bind fun x3 =>
  if x3 = x1.1 then
    if x1.1 = 0 then
      if (lg_cmp (x2.2.2 97 0) x2.1.toInt64) = 0 then
        some x2.2
      else
        none
    else
      some x2.2
  else
    none
theorem cR_law_1 {l : Launch} (hl : l.stackTraces = false) (n : Nat) {b L j : Nat} {xs : Nat → Int32} {i : Int32} (hI : kbIdx L j i) {ck cn : Nat} (hck : ck + 4 ≤ 601024) (hcn : cn + 24 ≤ 7293034) (u1 : Int32) (hu1 : xs (j + 1) = u1) (μ : kbM) {P : kbM → Prop} (h : kbG (c_law_1 n u1 μ) P) (kk : ∀ μ' : kbM, P μ' → kbY l ML_law [] room_1 (ck + 4) (cn + 24) (kbFlaw b L xs) 2000 [some (.ref 4000), some (.ref 0), some (.ref 57), some (.ref 97), some (.int i), none, none, none] [] μ') : kbY l ML_law [] room_1 ck cn (kbFlaw b L xs) 269 [some (.ref 4000), some (.ref 0), some (.ref 57), some (.ref 97), some (.int i), none, none, none] [] μ := by
  unfold c_law_1 at h
  refine y_aload_n dL_law_269 rfl ?_
  refine y_aload_n dL_law_270 rfl ?_
  refine y_iload dL_law_271 rfl ?_
  refine y_iconst 1 dL_law_273 (by decide) ?_
  refine y_iadd dL_law_274 ?_
  refine y_sld (j + 1) (hI 1 (by decide)).1 (hI 1 (by decide)).2 dL_law_275 ?_
  rw [hu1]
  refine y_aload_n dL_law_276 rfl ?_
  obtain ⟨x1, hx0, h⟩ := kbG_bind h
  refine y_invSW cwL_100 (sp_L_book hl n u1 μ hx0) rfl rfl (Nat.le_of_ble_eq_true rfl) (kbRo_law (Nat.le_of_ble_eq_true rfl) (Nat.le_of_ble_eq_true rfl) (by omega) (by omega)) dL_law_277 ?_
  refine y_istore dL_law_280 (Nat.le_of_ble_eq_true rfl) rfl ?_
  refine y_aload_n dL_law_282 rfl ?_
  refine y_aload_n dL_law_283 rfl ?_
  refine y_iload dL_law_284 rfl ?_
  refine y_iconst 1 dL_law_286 (by decide) ?_
  refine y_iadd dL_law_287 ?_
  refine y_sld (j + 1) (hI 1 (by decide)).1 (hI 1 (by decide)).2 dL_law_288 ?_
  rw [hu1]
  obtain ⟨x2, hx0, h⟩ := kbG_bind h
  refine y_invV_i cvL_105 sh57 rfl (sp_MD_book n u1 x1.2 hx0) rfl rfl (Nat.le_of_ble_eq_true rfl) (kbRo_law (Nat.le_of_ble_eq_true rfl) (Nat.le_of_ble_eq_true rfl) (by omega) (by omega)) dL_law_289 ?_
  refine y_istore dL_law_292 (Nat.le_of_ble_eq_true rfl) rfl ?_
  refine y_aload_n dL_law_294 rfl ?_
  obtain ⟨x3, hx0, h⟩ := kbG_bind h
  refine y_invV_i cvL_106 sh57 rfl (sp_MD_thrown x2.2 hx0) rfl rfl (Nat.le_of_ble_eq_true rfl) (kbRo_law (Nat.le_of_ble_eq_true rfl) (Nat.le_of_ble_eq_true rfl) (by omega) (by omega)) dL_law_295 ?_
  refine y_iload dL_law_298 rfl ?_
  refine y_icmp_eq 305 dL_law_300 (by decide) (fun hc => ?_) (fun hc => ?_)
  · replace h := kbG_t hc h
    refine y_iload dL_law_305 rfl ?_
    refine y_if_ne 322 dL_law_307 (by decide) (fun hc => ?_) (fun hc => ?_)
    · replace h := kbG_f hc h
      refine y_goto 2000 dL_law_322 (by decide) ?_
      refine y_le [some (.ref 4000), some (.ref 0), some (.ref 57), some (.ref 97), some (.int i), none, none, none] ⟨rfl, ⟨rfl, ⟨rfl, ⟨rfl, ⟨rfl, trivial⟩⟩⟩⟩⟩ ?_
      exact y_widen (by omega) (by omega) (kk _ (kbG_some h))
    · replace h := kbG_t hc h
      refine y_aload_n dL_law_310 rfl ?_
      refine y_iconst 0 dL_law_311 (by decide) ?_
      refine yq_lald 0 (by decide) sh97 (kbIn_of (by decide)) dL_law_312 ?_
      refine y_iload dL_law_313 rfl ?_
      refine y_i2l dL_law_315 ?_
      refine y_lcmp dL_law_316 ?_
      refine y_if_eq 322 dL_law_317 (by decide) (fun hc => ?_) (fun hc => ?_)
      · replace h := kbG_t hc h
        refine y_goto 2000 dL_law_322 (by decide) ?_
        refine y_le [some (.ref 4000), some (.ref 0), some (.ref 57), some (.ref 97), some (.int i), none, none, none] ⟨rfl, ⟨rfl, ⟨rfl, ⟨rfl, ⟨rfl, trivial⟩⟩⟩⟩⟩ ?_
        exact y_widen (by omega) (by omega) (kk _ (kbG_some h))
      · replace h := kbG_f hc h
        exact absurd h kbG_none
  · replace h := kbG_f hc h
    exact absurd h kbG_none
def c_law_2 (n : Nat)  (μ : kbM) : Option kbM :=
  (f_KB_fault μ).bind fun x1 =>
  (f_MD_fault μ).bind fun x2 =>
  if x1 = x2.1 then
    some x2.2
  else
    none
theorem cR_law_2 {l : Launch} (hl : l.stackTraces = false) (n : Nat) {b L j : Nat} {xs : Nat → Int32} {i : Int32} (hI : kbIdx L j i) {ck cn : Nat} (hck : ck + 4 ≤ 601024) (hcn : cn + 24 ≤ 7293034)   (μ : kbM) {P : kbM → Prop} (h : kbG (c_law_2 n  μ) P) (kk : ∀ μ' : kbM, P μ' → kbY l ML_law [] room_1 (ck + 4) (cn + 24) (kbFlaw b L xs) 2000 [some (.ref 4000), some (.ref 0), some (.ref 57), some (.ref 97), some (.int i), none, none, none] [] μ') : kbY l ML_law [] room_1 ck cn (kbFlaw b L xs) 325 [some (.ref 4000), some (.ref 0), some (.ref 57), some (.ref 97), some (.int i), none, none, none] [] μ := by
  unfold c_law_2 at h
  refine y_aload_n dL_law_325 rfl ?_
  obtain ⟨x1, hx0, h⟩ := kbG_bind h
  refine y_invV_i cvL_110 sh0 rfl (sp_KB_fault μ hx0) rfl rfl (Nat.le_of_ble_eq_true rfl) (kbRo_law (Nat.le_of_ble_eq_true rfl) (Nat.le_of_ble_eq_true rfl) (by omega) (by omega)) dL_law_326 ?_
  refine y_aload_n dL_law_329 rfl ?_
  obtain ⟨x2, hx0, h⟩ := kbG_bind h
  refine y_invV_i cvL_113 sh57 rfl (sp_MD_fault μ hx0) rfl rfl (Nat.le_of_ble_eq_true rfl) (kbRo_law (Nat.le_of_ble_eq_true rfl) (Nat.le_of_ble_eq_true rfl) (by omega) (by omega)) dL_law_330 ?_
  refine y_icmp_eq 2000 dL_law_333 (by decide) (fun hc => ?_) (fun hc => ?_)
  · replace h := kbG_t hc h
    refine y_le [some (.ref 4000), some (.ref 0), some (.ref 57), some (.ref 97), some (.int i), none, none, none] ⟨rfl, ⟨rfl, ⟨rfl, ⟨rfl, ⟨rfl, trivial⟩⟩⟩⟩⟩ ?_
    exact y_widen (by omega) (by omega) (kk _ (kbG_some h))
  · replace h := kbG_f hc h
    exact absurd h kbG_none
def c_law_3 (n : Nat) (u1 : Int32) (μ : kbM) : Option kbM :=
  (f_L_count n u1 μ).bind fun x1 =>
  (f_MD_count n u1 x1.2).bind fun x2 =>
  (f_MD_thrown x2.2).bind fun x3 =>
  if x3 = x1.1 then
    if x1.1 = 0 then
      if (lg_cmp (x2.2.2 97 0) x2.1.toInt64) = 0 then
        some x2.2
      else
        none
    else
      some x2.2
  else
    none
theorem cR_law_3 {l : Launch} (hl : l.stackTraces = false) (n : Nat) {b L j : Nat} {xs : Nat → Int32} {i : Int32} (hI : kbIdx L j i) {ck cn : Nat} (hck : ck + 4 ≤ 601024) (hcn : cn + 24 ≤ 7293034) (u1 : Int32) (hu1 : xs (j + 1) = u1) (μ : kbM) {P : kbM → Prop} (h : kbG (c_law_3 n u1 μ) P) (kk : ∀ μ' : kbM, P μ' → kbY l ML_law [] room_1 (ck + 4) (cn + 24) (kbFlaw b L xs) 2000 [some (.ref 4000), some (.ref 0), some (.ref 57), some (.ref 97), some (.int i), none, none, none] [] μ') : kbY l ML_law [] room_1 ck cn (kbFlaw b L xs) 338 [some (.ref 4000), some (.ref 0), some (.ref 57), some (.ref 97), some (.int i), none, none, none] [] μ := by
  unfold c_law_3 at h
  refine y_aload_n dL_law_338 rfl ?_
  refine y_aload_n dL_law_339 rfl ?_
  refine y_iload dL_law_340 rfl ?_
  refine y_iconst 1 dL_law_342 (by decide) ?_
  refine y_iadd dL_law_343 ?_
  refine y_sld (j + 1) (hI 1 (by decide)).1 (hI 1 (by decide)).2 dL_law_344 ?_
  rw [hu1]
  refine y_aload_n dL_law_345 rfl ?_
  obtain ⟨x1, hx0, h⟩ := kbG_bind h
  refine y_invSW cwL_114 (sp_L_count hl n u1 μ hx0) rfl rfl (Nat.le_of_ble_eq_true rfl) (kbRo_law (Nat.le_of_ble_eq_true rfl) (Nat.le_of_ble_eq_true rfl) (by omega) (by omega)) dL_law_346 ?_
  refine y_istore dL_law_349 (Nat.le_of_ble_eq_true rfl) rfl ?_
  refine y_aload_n dL_law_351 rfl ?_
  refine y_aload_n dL_law_352 rfl ?_
  refine y_iload dL_law_353 rfl ?_
  refine y_iconst 1 dL_law_355 (by decide) ?_
  refine y_iadd dL_law_356 ?_
  refine y_sld (j + 1) (hI 1 (by decide)).1 (hI 1 (by decide)).2 dL_law_357 ?_
  rw [hu1]
  obtain ⟨x2, hx0, h⟩ := kbG_bind h
  refine y_invV_i cvL_116 sh57 rfl (sp_MD_count n u1 x1.2 hx0) rfl rfl (Nat.le_of_ble_eq_true rfl) (kbRo_law (Nat.le_of_ble_eq_true rfl) (Nat.le_of_ble_eq_true rfl) (by omega) (by omega)) dL_law_358 ?_
  refine y_istore dL_law_361 (Nat.le_of_ble_eq_true rfl) rfl ?_
  refine y_aload_n dL_law_363 rfl ?_
  obtain ⟨x3, hx0, h⟩ := kbG_bind h
  refine y_invV_i cvL_106 sh57 rfl (sp_MD_thrown x2.2 hx0) rfl rfl (Nat.le_of_ble_eq_true rfl) (kbRo_law (Nat.le_of_ble_eq_true rfl) (Nat.le_of_ble_eq_true rfl) (by omega) (by omega)) dL_law_364 ?_
  refine y_iload dL_law_367 rfl ?_
  refine y_icmp_eq 374 dL_law_369 (by decide) (fun hc => ?_) (fun hc => ?_)
  · replace h := kbG_t hc h
    refine y_iload dL_law_374 rfl ?_
    refine y_if_ne 391 dL_law_376 (by decide) (fun hc => ?_) (fun hc => ?_)
    · replace h := kbG_f hc h
      refine y_goto 2000 dL_law_391 (by decide) ?_
      refine y_le [some (.ref 4000), some (.ref 0), some (.ref 57), some (.ref 97), some (.int i), none, none, none] ⟨rfl, ⟨rfl, ⟨rfl, ⟨rfl, ⟨rfl, trivial⟩⟩⟩⟩⟩ ?_
      exact y_widen (by omega) (by omega) (kk _ (kbG_some h))
    · replace h := kbG_t hc h
      refine y_aload_n dL_law_379 rfl ?_
      refine y_iconst 0 dL_law_380 (by decide) ?_
      refine yq_lald 0 (by decide) sh97 (kbIn_of (by decide)) dL_law_381 ?_
      refine y_iload dL_law_382 rfl ?_
      refine y_i2l dL_law_384 ?_
      refine y_lcmp dL_law_385 ?_
      refine y_if_eq 391 dL_law_386 (by decide) (fun hc => ?_) (fun hc => ?_)
      · replace h := kbG_t hc h
        refine y_goto 2000 dL_law_391 (by decide) ?_
        refine y_le [some (.ref 4000), some (.ref 0), some (.ref 57), some (.ref 97), some (.int i), none, none, none] ⟨rfl, ⟨rfl, ⟨rfl, ⟨rfl, ⟨rfl, trivial⟩⟩⟩⟩⟩ ?_
        exact y_widen (by omega) (by omega) (kk _ (kbG_some h))
      · replace h := kbG_f hc h
        exact absurd h kbG_none
  · replace h := kbG_f hc h
    exact absurd h kbG_none
def c_law_4 (n : Nat) (u1 : Int32) (u2 : Int32) (μ : kbM) : Option kbM :=
  (f_L_word n u1 u2 μ).bind fun x1 =>
  (f_MD_word n u1 u2 x1.2).bind fun x2 =>
  (f_MD_thrown x2.2).bind fun x3 =>
  if x3 = x1.1 then
    if x1.1 = 0 then
      if (lg_cmp (x2.2.2 97 0) x2.1.toInt64) = 0 then
        some x2.2
      else
        none
    else
      some x2.2
  else
    none
theorem cR_law_4 {l : Launch} (hl : l.stackTraces = false) (n : Nat) {b L j : Nat} {xs : Nat → Int32} {i : Int32} (hI : kbIdx L j i) {ck cn : Nat} (hck : ck + 4 ≤ 601024) (hcn : cn + 24 ≤ 7293034) (u1 : Int32) (u2 : Int32) (hu1 : xs (j + 1) = u1) (hu2 : xs (j + 2) = u2) (μ : kbM) {P : kbM → Prop} (h : kbG (c_law_4 n u1 u2 μ) P) (kk : ∀ μ' : kbM, P μ' → kbY l ML_law [] room_1 (ck + 4) (cn + 24) (kbFlaw b L xs) 2000 [some (.ref 4000), some (.ref 0), some (.ref 57), some (.ref 97), some (.int i), none, none, none] [] μ') : kbY l ML_law [] room_1 ck cn (kbFlaw b L xs) 394 [some (.ref 4000), some (.ref 0), some (.ref 57), some (.ref 97), some (.int i), none, none, none] [] μ := by
  unfold c_law_4 at h
  refine y_aload_n dL_law_394 rfl ?_
  refine y_aload_n dL_law_395 rfl ?_
  refine y_iload dL_law_396 rfl ?_
  refine y_iconst 1 dL_law_398 (by decide) ?_
  refine y_iadd dL_law_399 ?_
  refine y_sld (j + 1) (hI 1 (by decide)).1 (hI 1 (by decide)).2 dL_law_400 ?_
  rw [hu1]
  refine y_aload_n dL_law_401 rfl ?_
  refine y_iload dL_law_402 rfl ?_
  refine y_iconst 2 dL_law_404 (by decide) ?_
  refine y_iadd dL_law_405 ?_
  refine y_sld (j + 2) (hI 2 (by decide)).1 (hI 2 (by decide)).2 dL_law_406 ?_
  rw [hu2]
  refine y_aload_n dL_law_407 rfl ?_
  obtain ⟨x1, hx0, h⟩ := kbG_bind h
  refine y_invSW cwL_117 (sp_L_word hl n u1 u2 μ hx0) rfl rfl (Nat.le_of_ble_eq_true rfl) (kbRo_law (Nat.le_of_ble_eq_true rfl) (Nat.le_of_ble_eq_true rfl) (by omega) (by omega)) dL_law_408 ?_
  refine y_istore dL_law_411 (Nat.le_of_ble_eq_true rfl) rfl ?_
  refine y_aload_n dL_law_413 rfl ?_
  refine y_aload_n dL_law_414 rfl ?_
  refine y_iload dL_law_415 rfl ?_
  refine y_iconst 1 dL_law_417 (by decide) ?_
  refine y_iadd dL_law_418 ?_
  refine y_sld (j + 1) (hI 1 (by decide)).1 (hI 1 (by decide)).2 dL_law_419 ?_
  rw [hu1]
  refine y_aload_n dL_law_420 rfl ?_
  refine y_iload dL_law_421 rfl ?_
  refine y_iconst 2 dL_law_423 (by decide) ?_
  refine y_iadd dL_law_424 ?_
  refine y_sld (j + 2) (hI 2 (by decide)).1 (hI 2 (by decide)).2 dL_law_425 ?_
  rw [hu2]
  obtain ⟨x2, hx0, h⟩ := kbG_bind h
  refine y_invV_i cvL_120 sh57 rfl (sp_MD_word n u1 u2 x1.2 hx0) rfl rfl (Nat.le_of_ble_eq_true rfl) (kbRo_law (Nat.le_of_ble_eq_true rfl) (Nat.le_of_ble_eq_true rfl) (by omega) (by omega)) dL_law_426 ?_
  refine y_istore dL_law_429 (Nat.le_of_ble_eq_true rfl) rfl ?_
  refine y_aload_n dL_law_431 rfl ?_
  obtain ⟨x3, hx0, h⟩ := kbG_bind h
  refine y_invV_i cvL_106 sh57 rfl (sp_MD_thrown x2.2 hx0) rfl rfl (Nat.le_of_ble_eq_true rfl) (kbRo_law (Nat.le_of_ble_eq_true rfl) (Nat.le_of_ble_eq_true rfl) (by omega) (by omega)) dL_law_432 ?_
  refine y_iload dL_law_435 rfl ?_
  refine y_icmp_eq 442 dL_law_437 (by decide) (fun hc => ?_) (fun hc => ?_)
  · replace h := kbG_t hc h
    refine y_iload dL_law_442 rfl ?_
    refine y_if_ne 459 dL_law_444 (by decide) (fun hc => ?_) (fun hc => ?_)
    · replace h := kbG_f hc h
      refine y_goto 2000 dL_law_459 (by decide) ?_
      refine y_le [some (.ref 4000), some (.ref 0), some (.ref 57), some (.ref 97), some (.int i), none, none, none] ⟨rfl, ⟨rfl, ⟨rfl, ⟨rfl, ⟨rfl, trivial⟩⟩⟩⟩⟩ ?_
      exact y_widen (by omega) (by omega) (kk _ (kbG_some h))
    · replace h := kbG_t hc h
      refine y_aload_n dL_law_447 rfl ?_
      refine y_iconst 0 dL_law_448 (by decide) ?_
      refine yq_lald 0 (by decide) sh97 (kbIn_of (by decide)) dL_law_449 ?_
      refine y_iload dL_law_450 rfl ?_
      refine y_i2l dL_law_452 ?_
      refine y_lcmp dL_law_453 ?_
      refine y_if_eq 459 dL_law_454 (by decide) (fun hc => ?_) (fun hc => ?_)
      · replace h := kbG_t hc h
        refine y_goto 2000 dL_law_459 (by decide) ?_
        refine y_le [some (.ref 4000), some (.ref 0), some (.ref 57), some (.ref 97), some (.int i), none, none, none] ⟨rfl, ⟨rfl, ⟨rfl, ⟨rfl, ⟨rfl, trivial⟩⟩⟩⟩⟩ ?_
        exact y_widen (by omega) (by omega) (kk _ (kbG_some h))
      · replace h := kbG_f hc h
        exact absurd h kbG_none
  · replace h := kbG_f hc h
    exact absurd h kbG_none
def c_law_5 (n : Nat) (u1 : Int32) (u2 : Int32) (μ : kbM) : Option kbM :=
  (f_L_door n u1 u2 μ).bind fun x1 =>
  (f_MD_door n u1 u2 x1.2).bind fun x2 =>
  (f_MD_thrown x2.2).bind fun x3 =>
  if x3 = x1.1 then
    if x1.1 = 0 then
      if (lg_cmp (x2.2.2 97 0) x2.1.toInt64) = 0 then
        some x2.2
      else
        none
    else
      some x2.2
  else
    none
theorem cR_law_5 {l : Launch} (hl : l.stackTraces = false) (n : Nat) {b L j : Nat} {xs : Nat → Int32} {i : Int32} (hI : kbIdx L j i) {ck cn : Nat} (hck : ck + 4 ≤ 601024) (hcn : cn + 24 ≤ 7293034) (u1 : Int32) (u2 : Int32) (hu1 : xs (j + 1) = u1) (hu2 : xs (j + 2) = u2) (μ : kbM) {P : kbM → Prop} (h : kbG (c_law_5 n u1 u2 μ) P) (kk : ∀ μ' : kbM, P μ' → kbY l ML_law [] room_1 (ck + 4) (cn + 24) (kbFlaw b L xs) 2000 [some (.ref 4000), some (.ref 0), some (.ref 57), some (.ref 97), some (.int i), none, none, none] [] μ') : kbY l ML_law [] room_1 ck cn (kbFlaw b L xs) 462 [some (.ref 4000), some (.ref 0), some (.ref 57), some (.ref 97), some (.int i), none, none, none] [] μ := by
  unfold c_law_5 at h
  refine y_aload_n dL_law_462 rfl ?_
  refine y_aload_n dL_law_463 rfl ?_
  refine y_iload dL_law_464 rfl ?_
  refine y_iconst 1 dL_law_466 (by decide) ?_
  refine y_iadd dL_law_467 ?_
  refine y_sld (j + 1) (hI 1 (by decide)).1 (hI 1 (by decide)).2 dL_law_468 ?_
  rw [hu1]
  refine y_aload_n dL_law_469 rfl ?_
  refine y_iload dL_law_470 rfl ?_
  refine y_iconst 2 dL_law_472 (by decide) ?_
  refine y_iadd dL_law_473 ?_
  refine y_sld (j + 2) (hI 2 (by decide)).1 (hI 2 (by decide)).2 dL_law_474 ?_
  rw [hu2]
  refine y_aload_n dL_law_475 rfl ?_
  obtain ⟨x1, hx0, h⟩ := kbG_bind h
  refine y_invSW cwL_121 (sp_L_door hl n u1 u2 μ hx0) rfl rfl (Nat.le_of_ble_eq_true rfl) (kbRo_law (Nat.le_of_ble_eq_true rfl) (Nat.le_of_ble_eq_true rfl) (by omega) (by omega)) dL_law_476 ?_
  refine y_istore dL_law_479 (Nat.le_of_ble_eq_true rfl) rfl ?_
  refine y_aload_n dL_law_481 rfl ?_
  refine y_aload_n dL_law_482 rfl ?_
  refine y_iload dL_law_483 rfl ?_
  refine y_iconst 1 dL_law_485 (by decide) ?_
  refine y_iadd dL_law_486 ?_
  refine y_sld (j + 1) (hI 1 (by decide)).1 (hI 1 (by decide)).2 dL_law_487 ?_
  rw [hu1]
  refine y_aload_n dL_law_488 rfl ?_
  refine y_iload dL_law_489 rfl ?_
  refine y_iconst 2 dL_law_491 (by decide) ?_
  refine y_iadd dL_law_492 ?_
  refine y_sld (j + 2) (hI 2 (by decide)).1 (hI 2 (by decide)).2 dL_law_493 ?_
  rw [hu2]
  obtain ⟨x2, hx0, h⟩ := kbG_bind h
  refine y_invV_i cvL_123 sh57 rfl (sp_MD_door n u1 u2 x1.2 hx0) rfl rfl (Nat.le_of_ble_eq_true rfl) (kbRo_law (Nat.le_of_ble_eq_true rfl) (Nat.le_of_ble_eq_true rfl) (by omega) (by omega)) dL_law_494 ?_
  refine y_istore dL_law_497 (Nat.le_of_ble_eq_true rfl) rfl ?_
  refine y_aload_n dL_law_499 rfl ?_
  obtain ⟨x3, hx0, h⟩ := kbG_bind h
  refine y_invV_i cvL_106 sh57 rfl (sp_MD_thrown x2.2 hx0) rfl rfl (Nat.le_of_ble_eq_true rfl) (kbRo_law (Nat.le_of_ble_eq_true rfl) (Nat.le_of_ble_eq_true rfl) (by omega) (by omega)) dL_law_500 ?_
  refine y_iload dL_law_503 rfl ?_
  refine y_icmp_eq 510 dL_law_505 (by decide) (fun hc => ?_) (fun hc => ?_)
  · replace h := kbG_t hc h
    refine y_iload dL_law_510 rfl ?_
    refine y_if_ne 527 dL_law_512 (by decide) (fun hc => ?_) (fun hc => ?_)
    · replace h := kbG_f hc h
      refine y_goto 2000 dL_law_527 (by decide) ?_
      refine y_le [some (.ref 4000), some (.ref 0), some (.ref 57), some (.ref 97), some (.int i), none, none, none] ⟨rfl, ⟨rfl, ⟨rfl, ⟨rfl, ⟨rfl, trivial⟩⟩⟩⟩⟩ ?_
      exact y_widen (by omega) (by omega) (kk _ (kbG_some h))
    · replace h := kbG_t hc h
      refine y_aload_n dL_law_515 rfl ?_
      refine y_iconst 0 dL_law_516 (by decide) ?_
      refine yq_lald 0 (by decide) sh97 (kbIn_of (by decide)) dL_law_517 ?_
      refine y_iload dL_law_518 rfl ?_
      refine y_i2l dL_law_520 ?_
      refine y_lcmp dL_law_521 ?_
      refine y_if_eq 527 dL_law_522 (by decide) (fun hc => ?_) (fun hc => ?_)
      · replace h := kbG_t hc h
        refine y_goto 2000 dL_law_527 (by decide) ?_
        refine y_le [some (.ref 4000), some (.ref 0), some (.ref 57), some (.ref 97), some (.int i), none, none, none] ⟨rfl, ⟨rfl, ⟨rfl, ⟨rfl, ⟨rfl, trivial⟩⟩⟩⟩⟩ ?_
        exact y_widen (by omega) (by omega) (kk _ (kbG_some h))
      · replace h := kbG_f hc h
        exact absurd h kbG_none
  · replace h := kbG_f hc h
    exact absurd h kbG_none
def c_law_6 (n : Nat) (u1 : Int32) (u2 : Int32) (μ : kbM) : Option kbM :=
  (f_L_hears n u1 u2 μ).bind fun x1 =>
  (f_MD_hears n u1 u2 x1.2).bind fun x2 =>
  (f_MD_thrown x2.2).bind fun x3 =>
  if x3 = x1.1 then
    if x1.1 = 0 then
      if (lg_cmp (x2.2.2 97 0) x2.1.toInt64) = 0 then
        some x2.2
      else
        none
    else
      some x2.2
  else
    none
theorem cR_law_6 {l : Launch} (hl : l.stackTraces = false) (n : Nat) {b L j : Nat} {xs : Nat → Int32} {i : Int32} (hI : kbIdx L j i) {ck cn : Nat} (hck : ck + 4 ≤ 601024) (hcn : cn + 24 ≤ 7293034) (u1 : Int32) (u2 : Int32) (hu1 : xs (j + 1) = u1) (hu2 : xs (j + 2) = u2) (μ : kbM) {P : kbM → Prop} (h : kbG (c_law_6 n u1 u2 μ) P) (kk : ∀ μ' : kbM, P μ' → kbY l ML_law [] room_1 (ck + 4) (cn + 24) (kbFlaw b L xs) 2000 [some (.ref 4000), some (.ref 0), some (.ref 57), some (.ref 97), some (.int i), none, none, none] [] μ') : kbY l ML_law [] room_1 ck cn (kbFlaw b L xs) 530 [some (.ref 4000), some (.ref 0), some (.ref 57), some (.ref 97), some (.int i), none, none, none] [] μ := by
  unfold c_law_6 at h
  refine y_aload_n dL_law_530 rfl ?_
  refine y_aload_n dL_law_531 rfl ?_
  refine y_iload dL_law_532 rfl ?_
  refine y_iconst 1 dL_law_534 (by decide) ?_
  refine y_iadd dL_law_535 ?_
  refine y_sld (j + 1) (hI 1 (by decide)).1 (hI 1 (by decide)).2 dL_law_536 ?_
  rw [hu1]
  refine y_aload_n dL_law_537 rfl ?_
  refine y_iload dL_law_538 rfl ?_
  refine y_iconst 2 dL_law_540 (by decide) ?_
  refine y_iadd dL_law_541 ?_
  refine y_sld (j + 2) (hI 2 (by decide)).1 (hI 2 (by decide)).2 dL_law_542 ?_
  rw [hu2]
  refine y_aload_n dL_law_543 rfl ?_
  obtain ⟨x1, hx0, h⟩ := kbG_bind h
  refine y_invSW cwL_124 (sp_L_hears hl n u1 u2 μ hx0) rfl rfl (Nat.le_of_ble_eq_true rfl) (kbRo_law (Nat.le_of_ble_eq_true rfl) (Nat.le_of_ble_eq_true rfl) (by omega) (by omega)) dL_law_544 ?_
  refine y_istore dL_law_547 (Nat.le_of_ble_eq_true rfl) rfl ?_
  refine y_aload_n dL_law_549 rfl ?_
  refine y_aload_n dL_law_550 rfl ?_
  refine y_iload dL_law_551 rfl ?_
  refine y_iconst 1 dL_law_553 (by decide) ?_
  refine y_iadd dL_law_554 ?_
  refine y_sld (j + 1) (hI 1 (by decide)).1 (hI 1 (by decide)).2 dL_law_555 ?_
  rw [hu1]
  refine y_aload_n dL_law_556 rfl ?_
  refine y_iload dL_law_557 rfl ?_
  refine y_iconst 2 dL_law_559 (by decide) ?_
  refine y_iadd dL_law_560 ?_
  refine y_sld (j + 2) (hI 2 (by decide)).1 (hI 2 (by decide)).2 dL_law_561 ?_
  rw [hu2]
  obtain ⟨x2, hx0, h⟩ := kbG_bind h
  refine y_invV_i cvL_126 sh57 rfl (sp_MD_hears n u1 u2 x1.2 hx0) rfl rfl (Nat.le_of_ble_eq_true rfl) (kbRo_law (Nat.le_of_ble_eq_true rfl) (Nat.le_of_ble_eq_true rfl) (by omega) (by omega)) dL_law_562 ?_
  refine y_istore dL_law_565 (Nat.le_of_ble_eq_true rfl) rfl ?_
  refine y_aload_n dL_law_567 rfl ?_
  obtain ⟨x3, hx0, h⟩ := kbG_bind h
  refine y_invV_i cvL_106 sh57 rfl (sp_MD_thrown x2.2 hx0) rfl rfl (Nat.le_of_ble_eq_true rfl) (kbRo_law (Nat.le_of_ble_eq_true rfl) (Nat.le_of_ble_eq_true rfl) (by omega) (by omega)) dL_law_568 ?_
  refine y_iload dL_law_571 rfl ?_
  refine y_icmp_eq 578 dL_law_573 (by decide) (fun hc => ?_) (fun hc => ?_)
  · replace h := kbG_t hc h
    refine y_iload dL_law_578 rfl ?_
    refine y_if_ne 595 dL_law_580 (by decide) (fun hc => ?_) (fun hc => ?_)
    · replace h := kbG_f hc h
      refine y_goto 2000 dL_law_595 (by decide) ?_
      refine y_le [some (.ref 4000), some (.ref 0), some (.ref 57), some (.ref 97), some (.int i), none, none, none] ⟨rfl, ⟨rfl, ⟨rfl, ⟨rfl, ⟨rfl, trivial⟩⟩⟩⟩⟩ ?_
      exact y_widen (by omega) (by omega) (kk _ (kbG_some h))
    · replace h := kbG_t hc h
      refine y_aload_n dL_law_583 rfl ?_
      refine y_iconst 0 dL_law_584 (by decide) ?_
      refine yq_lald 0 (by decide) sh97 (kbIn_of (by decide)) dL_law_585 ?_
      refine y_iload dL_law_586 rfl ?_
      refine y_i2l dL_law_588 ?_
      refine y_lcmp dL_law_589 ?_
      refine y_if_eq 595 dL_law_590 (by decide) (fun hc => ?_) (fun hc => ?_)
      · replace h := kbG_t hc h
        refine y_goto 2000 dL_law_595 (by decide) ?_
        refine y_le [some (.ref 4000), some (.ref 0), some (.ref 57), some (.ref 97), some (.int i), none, none, none] ⟨rfl, ⟨rfl, ⟨rfl, ⟨rfl, ⟨rfl, trivial⟩⟩⟩⟩⟩ ?_
        exact y_widen (by omega) (by omega) (kk _ (kbG_some h))
      · replace h := kbG_f hc h
        exact absurd h kbG_none
  · replace h := kbG_f hc h
    exact absurd h kbG_none
def c_law_7 (n : Nat) (u1 : Int32) (u2 : Int32) (μ : kbM) : Option kbM :=
  (f_L_read n u1 u2 μ).bind fun x1 =>
  (f_MD_read n u1 u2 x1.2).bind fun x2 =>
  (f_MD_thrown x2.2).bind fun x3 =>
  if x3 = x1.1 then
    if x1.1 = 0 then
      if (lg_cmp (x2.2.2 97 0) x2.1) = 0 then
        some x2.2
      else
        none
    else
      some x2.2
  else
    none
theorem cR_law_7 {l : Launch} (hl : l.stackTraces = false) (n : Nat) {b L j : Nat} {xs : Nat → Int32} {i : Int32} (hI : kbIdx L j i) {ck cn : Nat} (hck : ck + 4 ≤ 601024) (hcn : cn + 24 ≤ 7293034) (u1 : Int32) (u2 : Int32) (hu1 : xs (j + 1) = u1) (hu2 : xs (j + 2) = u2) (μ : kbM) {P : kbM → Prop} (h : kbG (c_law_7 n u1 u2 μ) P) (kk : ∀ μ' : kbM, P μ' → kbY l ML_law [] room_1 (ck + 4) (cn + 24) (kbFlaw b L xs) 2000 [some (.ref 4000), some (.ref 0), some (.ref 57), some (.ref 97), some (.int i), none, none, none] [] μ') : kbY l ML_law [] room_1 ck cn (kbFlaw b L xs) 598 [some (.ref 4000), some (.ref 0), some (.ref 57), some (.ref 97), some (.int i), none, none, none] [] μ := by
  unfold c_law_7 at h
  refine y_aload_n dL_law_598 rfl ?_
  refine y_aload_n dL_law_599 rfl ?_
  refine y_iload dL_law_600 rfl ?_
  refine y_iconst 1 dL_law_602 (by decide) ?_
  refine y_iadd dL_law_603 ?_
  refine y_sld (j + 1) (hI 1 (by decide)).1 (hI 1 (by decide)).2 dL_law_604 ?_
  rw [hu1]
  refine y_aload_n dL_law_605 rfl ?_
  refine y_iload dL_law_606 rfl ?_
  refine y_iconst 2 dL_law_608 (by decide) ?_
  refine y_iadd dL_law_609 ?_
  refine y_sld (j + 2) (hI 2 (by decide)).1 (hI 2 (by decide)).2 dL_law_610 ?_
  rw [hu2]
  refine y_aload_n dL_law_611 rfl ?_
  obtain ⟨x1, hx0, h⟩ := kbG_bind h
  refine y_invSW cwL_127 (sp_L_read hl n u1 u2 μ hx0) rfl rfl (Nat.le_of_ble_eq_true rfl) (kbRo_law (Nat.le_of_ble_eq_true rfl) (Nat.le_of_ble_eq_true rfl) (by omega) (by omega)) dL_law_612 ?_
  refine y_istore dL_law_615 (Nat.le_of_ble_eq_true rfl) rfl ?_
  refine y_aload_n dL_law_617 rfl ?_
  refine y_aload_n dL_law_618 rfl ?_
  refine y_iload dL_law_619 rfl ?_
  refine y_iconst 1 dL_law_621 (by decide) ?_
  refine y_iadd dL_law_622 ?_
  refine y_sld (j + 1) (hI 1 (by decide)).1 (hI 1 (by decide)).2 dL_law_623 ?_
  rw [hu1]
  refine y_aload_n dL_law_624 rfl ?_
  refine y_iload dL_law_625 rfl ?_
  refine y_iconst 2 dL_law_627 (by decide) ?_
  refine y_iadd dL_law_628 ?_
  refine y_sld (j + 2) (hI 2 (by decide)).1 (hI 2 (by decide)).2 dL_law_629 ?_
  rw [hu2]
  obtain ⟨x2, hx0, h⟩ := kbG_bind h
  refine y_invV_l cvL_129 sh57 rfl (sp_MD_read n u1 u2 x1.2 hx0) rfl rfl (Nat.le_of_ble_eq_true rfl) (kbRo_law (Nat.le_of_ble_eq_true rfl) (Nat.le_of_ble_eq_true rfl) (by omega) (by omega)) dL_law_630 ?_
  refine y_lstore dL_law_633 (Nat.le_of_ble_eq_true rfl) rfl ?_
  refine y_aload_n dL_law_635 rfl ?_
  obtain ⟨x3, hx0, h⟩ := kbG_bind h
  refine y_invV_i cvL_106 sh57 rfl (sp_MD_thrown x2.2 hx0) rfl rfl (Nat.le_of_ble_eq_true rfl) (kbRo_law (Nat.le_of_ble_eq_true rfl) (Nat.le_of_ble_eq_true rfl) (by omega) (by omega)) dL_law_636 ?_
  refine y_iload dL_law_639 rfl ?_
  refine y_icmp_eq 646 dL_law_641 (by decide) (fun hc => ?_) (fun hc => ?_)
  · replace h := kbG_t hc h
    refine y_iload dL_law_646 rfl ?_
    refine y_if_ne 662 dL_law_648 (by decide) (fun hc => ?_) (fun hc => ?_)
    · replace h := kbG_f hc h
      refine y_goto 2000 dL_law_662 (by decide) ?_
      refine y_le [some (.ref 4000), some (.ref 0), some (.ref 57), some (.ref 97), some (.int i), none, none, none] ⟨rfl, ⟨rfl, ⟨rfl, ⟨rfl, ⟨rfl, trivial⟩⟩⟩⟩⟩ ?_
      exact y_widen (by omega) (by omega) (kk _ (kbG_some h))
    · replace h := kbG_t hc h
      refine y_aload_n dL_law_651 rfl ?_
      refine y_iconst 0 dL_law_652 (by decide) ?_
      refine yq_lald 0 (by decide) sh97 (kbIn_of (by decide)) dL_law_653 ?_
      refine y_lload dL_law_654 rfl ?_
      refine y_lcmp dL_law_656 ?_
      refine y_if_eq 662 dL_law_657 (by decide) (fun hc => ?_) (fun hc => ?_)
      · replace h := kbG_t hc h
        refine y_goto 2000 dL_law_662 (by decide) ?_
        refine y_le [some (.ref 4000), some (.ref 0), some (.ref 57), some (.ref 97), some (.int i), none, none, none] ⟨rfl, ⟨rfl, ⟨rfl, ⟨rfl, ⟨rfl, trivial⟩⟩⟩⟩⟩ ?_
        exact y_widen (by omega) (by omega) (kk _ (kbG_some h))
      · replace h := kbG_f hc h
        exact absurd h kbG_none
  · replace h := kbG_f hc h
    exact absurd h kbG_none
def c_law_8 (n : Nat) (u1 : Int32) (u2 : Int32) (μ : kbM) : Option kbM :=
  (f_L_reading n u1 u2 μ).bind fun x1 =>
  (f_MD_reading n u1 u2 x1.2).bind fun x2 =>
  (f_MD_thrown x2.2).bind fun x3 =>
  if x3 = x1.1 then
    if x1.1 = 0 then
      if (lg_cmp (x2.2.2 97 0) x2.1.toInt64) = 0 then
        some x2.2
      else
        none
    else
      some x2.2
  else
    none
theorem cR_law_8 {l : Launch} (hl : l.stackTraces = false) (n : Nat) {b L j : Nat} {xs : Nat → Int32} {i : Int32} (hI : kbIdx L j i) {ck cn : Nat} (hck : ck + 4 ≤ 601024) (hcn : cn + 24 ≤ 7293034) (u1 : Int32) (u2 : Int32) (hu1 : xs (j + 1) = u1) (hu2 : xs (j + 2) = u2) (μ : kbM) {P : kbM → Prop} (h : kbG (c_law_8 n u1 u2 μ) P) (kk : ∀ μ' : kbM, P μ' → kbY l ML_law [] room_1 (ck + 4) (cn + 24) (kbFlaw b L xs) 2000 [some (.ref 4000), some (.ref 0), some (.ref 57), some (.ref 97), some (.int i), none, none, none] [] μ') : kbY l ML_law [] room_1 ck cn (kbFlaw b L xs) 665 [some (.ref 4000), some (.ref 0), some (.ref 57), some (.ref 97), some (.int i), none, none, none] [] μ := by
  unfold c_law_8 at h
  refine y_aload_n dL_law_665 rfl ?_
  refine y_aload_n dL_law_666 rfl ?_
  refine y_iload dL_law_667 rfl ?_
  refine y_iconst 1 dL_law_669 (by decide) ?_
  refine y_iadd dL_law_670 ?_
  refine y_sld (j + 1) (hI 1 (by decide)).1 (hI 1 (by decide)).2 dL_law_671 ?_
  rw [hu1]
  refine y_aload_n dL_law_672 rfl ?_
  refine y_iload dL_law_673 rfl ?_
  refine y_iconst 2 dL_law_675 (by decide) ?_
  refine y_iadd dL_law_676 ?_
  refine y_sld (j + 2) (hI 2 (by decide)).1 (hI 2 (by decide)).2 dL_law_677 ?_
  rw [hu2]
  refine y_aload_n dL_law_678 rfl ?_
  obtain ⟨x1, hx0, h⟩ := kbG_bind h
  refine y_invSW cwL_130 (sp_L_reading hl n u1 u2 μ hx0) rfl rfl (Nat.le_of_ble_eq_true rfl) (kbRo_law (Nat.le_of_ble_eq_true rfl) (Nat.le_of_ble_eq_true rfl) (by omega) (by omega)) dL_law_679 ?_
  refine y_istore dL_law_682 (Nat.le_of_ble_eq_true rfl) rfl ?_
  refine y_aload_n dL_law_684 rfl ?_
  refine y_aload_n dL_law_685 rfl ?_
  refine y_iload dL_law_686 rfl ?_
  refine y_iconst 1 dL_law_688 (by decide) ?_
  refine y_iadd dL_law_689 ?_
  refine y_sld (j + 1) (hI 1 (by decide)).1 (hI 1 (by decide)).2 dL_law_690 ?_
  rw [hu1]
  refine y_aload_n dL_law_691 rfl ?_
  refine y_iload dL_law_692 rfl ?_
  refine y_iconst 2 dL_law_694 (by decide) ?_
  refine y_iadd dL_law_695 ?_
  refine y_sld (j + 2) (hI 2 (by decide)).1 (hI 2 (by decide)).2 dL_law_696 ?_
  rw [hu2]
  obtain ⟨x2, hx0, h⟩ := kbG_bind h
  refine y_invV_i cvL_132 sh57 rfl (sp_MD_reading n u1 u2 x1.2 hx0) rfl rfl (Nat.le_of_ble_eq_true rfl) (kbRo_law (Nat.le_of_ble_eq_true rfl) (Nat.le_of_ble_eq_true rfl) (by omega) (by omega)) dL_law_697 ?_
  refine y_istore dL_law_700 (Nat.le_of_ble_eq_true rfl) rfl ?_
  refine y_aload_n dL_law_702 rfl ?_
  obtain ⟨x3, hx0, h⟩ := kbG_bind h
  refine y_invV_i cvL_106 sh57 rfl (sp_MD_thrown x2.2 hx0) rfl rfl (Nat.le_of_ble_eq_true rfl) (kbRo_law (Nat.le_of_ble_eq_true rfl) (Nat.le_of_ble_eq_true rfl) (by omega) (by omega)) dL_law_703 ?_
  refine y_iload dL_law_706 rfl ?_
  refine y_icmp_eq 713 dL_law_708 (by decide) (fun hc => ?_) (fun hc => ?_)
  · replace h := kbG_t hc h
    refine y_iload dL_law_713 rfl ?_
    refine y_if_ne 730 dL_law_715 (by decide) (fun hc => ?_) (fun hc => ?_)
    · replace h := kbG_f hc h
      refine y_goto 2000 dL_law_730 (by decide) ?_
      refine y_le [some (.ref 4000), some (.ref 0), some (.ref 57), some (.ref 97), some (.int i), none, none, none] ⟨rfl, ⟨rfl, ⟨rfl, ⟨rfl, ⟨rfl, trivial⟩⟩⟩⟩⟩ ?_
      exact y_widen (by omega) (by omega) (kk _ (kbG_some h))
    · replace h := kbG_t hc h
      refine y_aload_n dL_law_718 rfl ?_
      refine y_iconst 0 dL_law_719 (by decide) ?_
      refine yq_lald 0 (by decide) sh97 (kbIn_of (by decide)) dL_law_720 ?_
      refine y_iload dL_law_721 rfl ?_
      refine y_i2l dL_law_723 ?_
      refine y_lcmp dL_law_724 ?_
      refine y_if_eq 730 dL_law_725 (by decide) (fun hc => ?_) (fun hc => ?_)
      · replace h := kbG_t hc h
        refine y_goto 2000 dL_law_730 (by decide) ?_
        refine y_le [some (.ref 4000), some (.ref 0), some (.ref 57), some (.ref 97), some (.int i), none, none, none] ⟨rfl, ⟨rfl, ⟨rfl, ⟨rfl, ⟨rfl, trivial⟩⟩⟩⟩⟩ ?_
        exact y_widen (by omega) (by omega) (kk _ (kbG_some h))
      · replace h := kbG_f hc h
        exact absurd h kbG_none
  · replace h := kbG_f hc h
    exact absurd h kbG_none
def c_law_9 (n : Nat) (u1 : Int32) (u2 : Int32) (μ : kbM) : Option kbM :=
  (f_L_apart n u1 u2 μ).bind fun x1 =>
  (f_MD_apart n u1 u2 x1.2).bind fun x2 =>
  (f_MD_thrown x2.2).bind fun x3 =>
  if x3 = x1.1 then
    if x1.1 = 0 then
      if (lg_cmp (x2.2.2 97 0) x2.1.toInt64) = 0 then
        some x2.2
      else
        none
    else
      some x2.2
  else
    none
theorem cR_law_9 {l : Launch} (hl : l.stackTraces = false) (n : Nat) {b L j : Nat} {xs : Nat → Int32} {i : Int32} (hI : kbIdx L j i) {ck cn : Nat} (hck : ck + 4 ≤ 601024) (hcn : cn + 24 ≤ 7293034) (u1 : Int32) (u2 : Int32) (hu1 : xs (j + 1) = u1) (hu2 : xs (j + 2) = u2) (μ : kbM) {P : kbM → Prop} (h : kbG (c_law_9 n u1 u2 μ) P) (kk : ∀ μ' : kbM, P μ' → kbY l ML_law [] room_1 (ck + 4) (cn + 24) (kbFlaw b L xs) 2000 [some (.ref 4000), some (.ref 0), some (.ref 57), some (.ref 97), some (.int i), none, none, none] [] μ') : kbY l ML_law [] room_1 ck cn (kbFlaw b L xs) 733 [some (.ref 4000), some (.ref 0), some (.ref 57), some (.ref 97), some (.int i), none, none, none] [] μ := by
  unfold c_law_9 at h
  refine y_aload_n dL_law_733 rfl ?_
  refine y_aload_n dL_law_734 rfl ?_
  refine y_iload dL_law_735 rfl ?_
  refine y_iconst 1 dL_law_737 (by decide) ?_
  refine y_iadd dL_law_738 ?_
  refine y_sld (j + 1) (hI 1 (by decide)).1 (hI 1 (by decide)).2 dL_law_739 ?_
  rw [hu1]
  refine y_aload_n dL_law_740 rfl ?_
  refine y_iload dL_law_741 rfl ?_
  refine y_iconst 2 dL_law_743 (by decide) ?_
  refine y_iadd dL_law_744 ?_
  refine y_sld (j + 2) (hI 2 (by decide)).1 (hI 2 (by decide)).2 dL_law_745 ?_
  rw [hu2]
  refine y_aload_n dL_law_746 rfl ?_
  obtain ⟨x1, hx0, h⟩ := kbG_bind h
  refine y_invSW cwL_133 (sp_L_apart hl n u1 u2 μ hx0) rfl rfl (Nat.le_of_ble_eq_true rfl) (kbRo_law (Nat.le_of_ble_eq_true rfl) (Nat.le_of_ble_eq_true rfl) (by omega) (by omega)) dL_law_747 ?_
  refine y_istore dL_law_750 (Nat.le_of_ble_eq_true rfl) rfl ?_
  refine y_aload_n dL_law_752 rfl ?_
  refine y_aload_n dL_law_753 rfl ?_
  refine y_iload dL_law_754 rfl ?_
  refine y_iconst 1 dL_law_756 (by decide) ?_
  refine y_iadd dL_law_757 ?_
  refine y_sld (j + 1) (hI 1 (by decide)).1 (hI 1 (by decide)).2 dL_law_758 ?_
  rw [hu1]
  refine y_aload_n dL_law_759 rfl ?_
  refine y_iload dL_law_760 rfl ?_
  refine y_iconst 2 dL_law_762 (by decide) ?_
  refine y_iadd dL_law_763 ?_
  refine y_sld (j + 2) (hI 2 (by decide)).1 (hI 2 (by decide)).2 dL_law_764 ?_
  rw [hu2]
  obtain ⟨x2, hx0, h⟩ := kbG_bind h
  refine y_invV_i cvL_135 sh57 rfl (sp_MD_apart n u1 u2 x1.2 hx0) rfl rfl (Nat.le_of_ble_eq_true rfl) (kbRo_law (Nat.le_of_ble_eq_true rfl) (Nat.le_of_ble_eq_true rfl) (by omega) (by omega)) dL_law_765 ?_
  refine y_istore dL_law_768 (Nat.le_of_ble_eq_true rfl) rfl ?_
  refine y_aload_n dL_law_770 rfl ?_
  obtain ⟨x3, hx0, h⟩ := kbG_bind h
  refine y_invV_i cvL_106 sh57 rfl (sp_MD_thrown x2.2 hx0) rfl rfl (Nat.le_of_ble_eq_true rfl) (kbRo_law (Nat.le_of_ble_eq_true rfl) (Nat.le_of_ble_eq_true rfl) (by omega) (by omega)) dL_law_771 ?_
  refine y_iload dL_law_774 rfl ?_
  refine y_icmp_eq 781 dL_law_776 (by decide) (fun hc => ?_) (fun hc => ?_)
  · replace h := kbG_t hc h
    refine y_iload dL_law_781 rfl ?_
    refine y_if_ne 798 dL_law_783 (by decide) (fun hc => ?_) (fun hc => ?_)
    · replace h := kbG_f hc h
      refine y_goto 2000 dL_law_798 (by decide) ?_
      refine y_le [some (.ref 4000), some (.ref 0), some (.ref 57), some (.ref 97), some (.int i), none, none, none] ⟨rfl, ⟨rfl, ⟨rfl, ⟨rfl, ⟨rfl, trivial⟩⟩⟩⟩⟩ ?_
      exact y_widen (by omega) (by omega) (kk _ (kbG_some h))
    · replace h := kbG_t hc h
      refine y_aload_n dL_law_786 rfl ?_
      refine y_iconst 0 dL_law_787 (by decide) ?_
      refine yq_lald 0 (by decide) sh97 (kbIn_of (by decide)) dL_law_788 ?_
      refine y_iload dL_law_789 rfl ?_
      refine y_i2l dL_law_791 ?_
      refine y_lcmp dL_law_792 ?_
      refine y_if_eq 798 dL_law_793 (by decide) (fun hc => ?_) (fun hc => ?_)
      · replace h := kbG_t hc h
        refine y_goto 2000 dL_law_798 (by decide) ?_
        refine y_le [some (.ref 4000), some (.ref 0), some (.ref 57), some (.ref 97), some (.int i), none, none, none] ⟨rfl, ⟨rfl, ⟨rfl, ⟨rfl, ⟨rfl, trivial⟩⟩⟩⟩⟩ ?_
        exact y_widen (by omega) (by omega) (kk _ (kbG_some h))
      · replace h := kbG_f hc h
        exact absurd h kbG_none
  · replace h := kbG_f hc h
    exact absurd h kbG_none
def c_law_10 (n : Nat) (u1 : Int32) (u2 : Int32) (μ : kbM) : Option kbM :=
  (f_L_nearest n u1 u2 μ).bind fun x1 =>
  (f_MD_nearest n u1 u2 x1.2).bind fun x2 =>
  (f_MD_thrown x2.2).bind fun x3 =>
  if x3 = x1.1 then
    if x1.1 = 0 then
      if (lg_cmp (x2.2.2 97 0) x2.1.toInt64) = 0 then
        some x2.2
      else
        none
    else
      some x2.2
  else
    none
theorem cR_law_10 {l : Launch} (hl : l.stackTraces = false) (n : Nat) {b L j : Nat} {xs : Nat → Int32} {i : Int32} (hI : kbIdx L j i) {ck cn : Nat} (hck : ck + 4 ≤ 601024) (hcn : cn + 24 ≤ 7293034) (u1 : Int32) (u2 : Int32) (hu1 : xs (j + 1) = u1) (hu2 : xs (j + 2) = u2) (μ : kbM) {P : kbM → Prop} (h : kbG (c_law_10 n u1 u2 μ) P) (kk : ∀ μ' : kbM, P μ' → kbY l ML_law [] room_1 (ck + 4) (cn + 24) (kbFlaw b L xs) 2000 [some (.ref 4000), some (.ref 0), some (.ref 57), some (.ref 97), some (.int i), none, none, none] [] μ') : kbY l ML_law [] room_1 ck cn (kbFlaw b L xs) 801 [some (.ref 4000), some (.ref 0), some (.ref 57), some (.ref 97), some (.int i), none, none, none] [] μ := by
  unfold c_law_10 at h
  refine y_aload_n dL_law_801 rfl ?_
  refine y_aload_n dL_law_802 rfl ?_
  refine y_iload dL_law_803 rfl ?_
  refine y_iconst 1 dL_law_805 (by decide) ?_
  refine y_iadd dL_law_806 ?_
  refine y_sld (j + 1) (hI 1 (by decide)).1 (hI 1 (by decide)).2 dL_law_807 ?_
  rw [hu1]
  refine y_aload_n dL_law_808 rfl ?_
  refine y_iload dL_law_809 rfl ?_
  refine y_iconst 2 dL_law_811 (by decide) ?_
  refine y_iadd dL_law_812 ?_
  refine y_sld (j + 2) (hI 2 (by decide)).1 (hI 2 (by decide)).2 dL_law_813 ?_
  rw [hu2]
  refine y_aload_n dL_law_814 rfl ?_
  obtain ⟨x1, hx0, h⟩ := kbG_bind h
  refine y_invSW cwL_136 (sp_L_nearest hl n u1 u2 μ hx0) rfl rfl (Nat.le_of_ble_eq_true rfl) (kbRo_law (Nat.le_of_ble_eq_true rfl) (Nat.le_of_ble_eq_true rfl) (by omega) (by omega)) dL_law_815 ?_
  refine y_istore dL_law_818 (Nat.le_of_ble_eq_true rfl) rfl ?_
  refine y_aload_n dL_law_820 rfl ?_
  refine y_aload_n dL_law_821 rfl ?_
  refine y_iload dL_law_822 rfl ?_
  refine y_iconst 1 dL_law_824 (by decide) ?_
  refine y_iadd dL_law_825 ?_
  refine y_sld (j + 1) (hI 1 (by decide)).1 (hI 1 (by decide)).2 dL_law_826 ?_
  rw [hu1]
  refine y_aload_n dL_law_827 rfl ?_
  refine y_iload dL_law_828 rfl ?_
  refine y_iconst 2 dL_law_830 (by decide) ?_
  refine y_iadd dL_law_831 ?_
  refine y_sld (j + 2) (hI 2 (by decide)).1 (hI 2 (by decide)).2 dL_law_832 ?_
  rw [hu2]
  obtain ⟨x2, hx0, h⟩ := kbG_bind h
  refine y_invV_i cvL_138 sh57 rfl (sp_MD_nearest n u1 u2 x1.2 hx0) rfl rfl (Nat.le_of_ble_eq_true rfl) (kbRo_law (Nat.le_of_ble_eq_true rfl) (Nat.le_of_ble_eq_true rfl) (by omega) (by omega)) dL_law_833 ?_
  refine y_istore dL_law_836 (Nat.le_of_ble_eq_true rfl) rfl ?_
  refine y_aload_n dL_law_838 rfl ?_
  obtain ⟨x3, hx0, h⟩ := kbG_bind h
  refine y_invV_i cvL_106 sh57 rfl (sp_MD_thrown x2.2 hx0) rfl rfl (Nat.le_of_ble_eq_true rfl) (kbRo_law (Nat.le_of_ble_eq_true rfl) (Nat.le_of_ble_eq_true rfl) (by omega) (by omega)) dL_law_839 ?_
  refine y_iload dL_law_842 rfl ?_
  refine y_icmp_eq 849 dL_law_844 (by decide) (fun hc => ?_) (fun hc => ?_)
  · replace h := kbG_t hc h
    refine y_iload dL_law_849 rfl ?_
    refine y_if_ne 866 dL_law_851 (by decide) (fun hc => ?_) (fun hc => ?_)
    · replace h := kbG_f hc h
      refine y_goto 2000 dL_law_866 (by decide) ?_
      refine y_le [some (.ref 4000), some (.ref 0), some (.ref 57), some (.ref 97), some (.int i), none, none, none] ⟨rfl, ⟨rfl, ⟨rfl, ⟨rfl, ⟨rfl, trivial⟩⟩⟩⟩⟩ ?_
      exact y_widen (by omega) (by omega) (kk _ (kbG_some h))
    · replace h := kbG_t hc h
      refine y_aload_n dL_law_854 rfl ?_
      refine y_iconst 0 dL_law_855 (by decide) ?_
      refine yq_lald 0 (by decide) sh97 (kbIn_of (by decide)) dL_law_856 ?_
      refine y_iload dL_law_857 rfl ?_
      refine y_i2l dL_law_859 ?_
      refine y_lcmp dL_law_860 ?_
      refine y_if_eq 866 dL_law_861 (by decide) (fun hc => ?_) (fun hc => ?_)
      · replace h := kbG_t hc h
        refine y_goto 2000 dL_law_866 (by decide) ?_
        refine y_le [some (.ref 4000), some (.ref 0), some (.ref 57), some (.ref 97), some (.int i), none, none, none] ⟨rfl, ⟨rfl, ⟨rfl, ⟨rfl, ⟨rfl, trivial⟩⟩⟩⟩⟩ ?_
        exact y_widen (by omega) (by omega) (kk _ (kbG_some h))
      · replace h := kbG_f hc h
        exact absurd h kbG_none
  · replace h := kbG_f hc h
    exact absurd h kbG_none
def c_law_11 (n : Nat) (u1 : Int32) (u2 : Int32) (u3 : Int32) (μ : kbM) : Option kbM :=
  (f_KB_take n u1 u2 u3 μ).bind fun x1 =>
  (f_MD_take n u1 u2 u3 x1.2).bind fun x2 =>
  if x1.1 = x2.1 then
    some x2.2
  else
    none
theorem cR_law_11 {l : Launch} (hl : l.stackTraces = false) (n : Nat) {b L j : Nat} {xs : Nat → Int32} {i : Int32} (hI : kbIdx L j i) {ck cn : Nat} (hck : ck + 4 ≤ 601024) (hcn : cn + 24 ≤ 7293034) (u1 : Int32) (u2 : Int32) (u3 : Int32) (hu1 : xs (j + 1) = u1) (hu2 : xs (j + 2) = u2) (hu3 : xs (j + 3) = u3) (μ : kbM) {P : kbM → Prop} (h : kbG (c_law_11 n u1 u2 u3 μ) P) (kk : ∀ μ' : kbM, P μ' → kbY l ML_law [] room_1 (ck + 4) (cn + 24) (kbFlaw b L xs) 2000 [some (.ref 4000), some (.ref 0), some (.ref 57), some (.ref 97), some (.int i), none, none, none] [] μ') : kbY l ML_law [] room_1 ck cn (kbFlaw b L xs) 869 [some (.ref 4000), some (.ref 0), some (.ref 57), some (.ref 97), some (.int i), none, none, none] [] μ := by
  unfold c_law_11 at h
  refine y_aload_n dL_law_869 rfl ?_
  refine y_aload_n dL_law_870 rfl ?_
  refine y_iload dL_law_871 rfl ?_
  refine y_iconst 1 dL_law_873 (by decide) ?_
  refine y_iadd dL_law_874 ?_
  refine y_sld (j + 1) (hI 1 (by decide)).1 (hI 1 (by decide)).2 dL_law_875 ?_
  rw [hu1]
  refine y_aload_n dL_law_876 rfl ?_
  refine y_iload dL_law_877 rfl ?_
  refine y_iconst 2 dL_law_879 (by decide) ?_
  refine y_iadd dL_law_880 ?_
  refine y_sld (j + 2) (hI 2 (by decide)).1 (hI 2 (by decide)).2 dL_law_881 ?_
  rw [hu2]
  refine y_aload_n dL_law_882 rfl ?_
  refine y_iload dL_law_883 rfl ?_
  refine y_iconst 3 dL_law_885 (by decide) ?_
  refine y_iadd dL_law_886 ?_
  refine y_sld (j + 3) (hI 3 (by decide)).1 (hI 3 (by decide)).2 dL_law_887 ?_
  rw [hu3]
  obtain ⟨x1, hx0, h⟩ := kbG_bind h
  refine y_invV_i cvL_139 sh0 rfl (sp_KB_take n u1 u2 u3 μ hx0) rfl rfl (Nat.le_of_ble_eq_true rfl) (kbRo_law (Nat.le_of_ble_eq_true rfl) (Nat.le_of_ble_eq_true rfl) (by omega) (by omega)) dL_law_888 ?_
  refine y_aload_n dL_law_891 rfl ?_
  refine y_aload_n dL_law_892 rfl ?_
  refine y_iload dL_law_893 rfl ?_
  refine y_iconst 1 dL_law_895 (by decide) ?_
  refine y_iadd dL_law_896 ?_
  refine y_sld (j + 1) (hI 1 (by decide)).1 (hI 1 (by decide)).2 dL_law_897 ?_
  rw [hu1]
  refine y_aload_n dL_law_898 rfl ?_
  refine y_iload dL_law_899 rfl ?_
  refine y_iconst 2 dL_law_901 (by decide) ?_
  refine y_iadd dL_law_902 ?_
  refine y_sld (j + 2) (hI 2 (by decide)).1 (hI 2 (by decide)).2 dL_law_903 ?_
  rw [hu2]
  refine y_aload_n dL_law_904 rfl ?_
  refine y_iload dL_law_905 rfl ?_
  refine y_iconst 3 dL_law_907 (by decide) ?_
  refine y_iadd dL_law_908 ?_
  refine y_sld (j + 3) (hI 3 (by decide)).1 (hI 3 (by decide)).2 dL_law_909 ?_
  rw [hu3]
  obtain ⟨x2, hx0, h⟩ := kbG_bind h
  refine y_invV_i cvL_142 sh57 rfl (sp_MD_take n u1 u2 u3 x1.2 hx0) rfl rfl (Nat.le_of_ble_eq_true rfl) (kbRo_law (Nat.le_of_ble_eq_true rfl) (Nat.le_of_ble_eq_true rfl) (by omega) (by omega)) dL_law_910 ?_
  refine y_icmp_eq 2000 dL_law_913 (by decide) (fun hc => ?_) (fun hc => ?_)
  · replace h := kbG_t hc h
    refine y_le [some (.ref 4000), some (.ref 0), some (.ref 57), some (.ref 97), some (.int i), none, none, none] ⟨rfl, ⟨rfl, ⟨rfl, ⟨rfl, ⟨rfl, trivial⟩⟩⟩⟩⟩ ?_
    exact y_widen (by omega) (by omega) (kk _ (kbG_some h))
  · replace h := kbG_f hc h
    exact absurd h kbG_none
def c_law_12 (n : Nat) (u1 : Int32) (μ : kbM) : Option kbM :=
  (f_L_die n u1 μ).bind fun x1 =>
  (f_MD_die n u1 x1.2).bind fun x2 =>
  (f_MD_thrown x2.2).bind fun x3 =>
  if x3 = x1.1 then
    if x1.1 = 0 then
      if (lg_cmp (x2.2.2 97 0) x2.1.toInt64) = 0 then
        some x2.2
      else
        none
    else
      some x2.2
  else
    none
theorem cR_law_12 {l : Launch} (hl : l.stackTraces = false) (n : Nat) {b L j : Nat} {xs : Nat → Int32} {i : Int32} (hI : kbIdx L j i) {ck cn : Nat} (hck : ck + 4 ≤ 601024) (hcn : cn + 24 ≤ 7293034) (u1 : Int32) (hu1 : xs (j + 1) = u1) (μ : kbM) {P : kbM → Prop} (h : kbG (c_law_12 n u1 μ) P) (kk : ∀ μ' : kbM, P μ' → kbY l ML_law [] room_1 (ck + 4) (cn + 24) (kbFlaw b L xs) 2000 [some (.ref 4000), some (.ref 0), some (.ref 57), some (.ref 97), some (.int i), none, none, none] [] μ') : kbY l ML_law [] room_1 ck cn (kbFlaw b L xs) 918 [some (.ref 4000), some (.ref 0), some (.ref 57), some (.ref 97), some (.int i), none, none, none] [] μ := by
  unfold c_law_12 at h
  refine y_aload_n dL_law_918 rfl ?_
  refine y_aload_n dL_law_919 rfl ?_
  refine y_iload dL_law_920 rfl ?_
  refine y_iconst 1 dL_law_922 (by decide) ?_
  refine y_iadd dL_law_923 ?_
  refine y_sld (j + 1) (hI 1 (by decide)).1 (hI 1 (by decide)).2 dL_law_924 ?_
  rw [hu1]
  refine y_aload_n dL_law_925 rfl ?_
  obtain ⟨x1, hx0, h⟩ := kbG_bind h
  refine y_invSW cwL_143 (sp_L_die hl n u1 μ hx0) rfl rfl (Nat.le_of_ble_eq_true rfl) (kbRo_law (Nat.le_of_ble_eq_true rfl) (Nat.le_of_ble_eq_true rfl) (by omega) (by omega)) dL_law_926 ?_
  refine y_istore dL_law_929 (Nat.le_of_ble_eq_true rfl) rfl ?_
  refine y_aload_n dL_law_931 rfl ?_
  refine y_aload_n dL_law_932 rfl ?_
  refine y_iload dL_law_933 rfl ?_
  refine y_iconst 1 dL_law_935 (by decide) ?_
  refine y_iadd dL_law_936 ?_
  refine y_sld (j + 1) (hI 1 (by decide)).1 (hI 1 (by decide)).2 dL_law_937 ?_
  rw [hu1]
  obtain ⟨x2, hx0, h⟩ := kbG_bind h
  refine y_invV_i cvL_145 sh57 rfl (sp_MD_die n u1 x1.2 hx0) rfl rfl (Nat.le_of_ble_eq_true rfl) (kbRo_law (Nat.le_of_ble_eq_true rfl) (Nat.le_of_ble_eq_true rfl) (by omega) (by omega)) dL_law_938 ?_
  refine y_istore dL_law_941 (Nat.le_of_ble_eq_true rfl) rfl ?_
  refine y_aload_n dL_law_943 rfl ?_
  obtain ⟨x3, hx0, h⟩ := kbG_bind h
  refine y_invV_i cvL_106 sh57 rfl (sp_MD_thrown x2.2 hx0) rfl rfl (Nat.le_of_ble_eq_true rfl) (kbRo_law (Nat.le_of_ble_eq_true rfl) (Nat.le_of_ble_eq_true rfl) (by omega) (by omega)) dL_law_944 ?_
  refine y_iload dL_law_947 rfl ?_
  refine y_icmp_eq 954 dL_law_949 (by decide) (fun hc => ?_) (fun hc => ?_)
  · replace h := kbG_t hc h
    refine y_iload dL_law_954 rfl ?_
    refine y_if_ne 971 dL_law_956 (by decide) (fun hc => ?_) (fun hc => ?_)
    · replace h := kbG_f hc h
      refine y_goto 2000 dL_law_971 (by decide) ?_
      refine y_le [some (.ref 4000), some (.ref 0), some (.ref 57), some (.ref 97), some (.int i), none, none, none] ⟨rfl, ⟨rfl, ⟨rfl, ⟨rfl, ⟨rfl, trivial⟩⟩⟩⟩⟩ ?_
      exact y_widen (by omega) (by omega) (kk _ (kbG_some h))
    · replace h := kbG_t hc h
      refine y_aload_n dL_law_959 rfl ?_
      refine y_iconst 0 dL_law_960 (by decide) ?_
      refine yq_lald 0 (by decide) sh97 (kbIn_of (by decide)) dL_law_961 ?_
      refine y_iload dL_law_962 rfl ?_
      refine y_i2l dL_law_964 ?_
      refine y_lcmp dL_law_965 ?_
      refine y_if_eq 971 dL_law_966 (by decide) (fun hc => ?_) (fun hc => ?_)
      · replace h := kbG_t hc h
        refine y_goto 2000 dL_law_971 (by decide) ?_
        refine y_le [some (.ref 4000), some (.ref 0), some (.ref 57), some (.ref 97), some (.int i), none, none, none] ⟨rfl, ⟨rfl, ⟨rfl, ⟨rfl, ⟨rfl, trivial⟩⟩⟩⟩⟩ ?_
        exact y_widen (by omega) (by omega) (kk _ (kbG_some h))
      · replace h := kbG_f hc h
        exact absurd h kbG_none
  · replace h := kbG_f hc h
    exact absurd h kbG_none
def c_law_13 (n : Nat) (u1 : Int32) (u2 : Int32) (μ : kbM) : Option kbM :=
  (f_L_worth n u1 u2 μ).bind fun x1 =>
  (f_MD_worth n u1 u2 x1.2).bind fun x2 =>
  (f_MD_thrown x2.2).bind fun x3 =>
  if x3 = x1.1 then
    if x1.1 = 0 then
      if (lg_cmp (x2.2.2 97 0) x2.1.toInt64) = 0 then
        some x2.2
      else
        none
    else
      some x2.2
  else
    none
theorem cR_law_13 {l : Launch} (hl : l.stackTraces = false) (n : Nat) {b L j : Nat} {xs : Nat → Int32} {i : Int32} (hI : kbIdx L j i) {ck cn : Nat} (hck : ck + 4 ≤ 601024) (hcn : cn + 24 ≤ 7293034) (u1 : Int32) (u2 : Int32) (hu1 : xs (j + 1) = u1) (hu2 : xs (j + 2) = u2) (μ : kbM) {P : kbM → Prop} (h : kbG (c_law_13 n u1 u2 μ) P) (kk : ∀ μ' : kbM, P μ' → kbY l ML_law [] room_1 (ck + 4) (cn + 24) (kbFlaw b L xs) 2000 [some (.ref 4000), some (.ref 0), some (.ref 57), some (.ref 97), some (.int i), none, none, none] [] μ') : kbY l ML_law [] room_1 ck cn (kbFlaw b L xs) 974 [some (.ref 4000), some (.ref 0), some (.ref 57), some (.ref 97), some (.int i), none, none, none] [] μ := by
  unfold c_law_13 at h
  refine y_aload_n dL_law_974 rfl ?_
  refine y_aload_n dL_law_975 rfl ?_
  refine y_iload dL_law_976 rfl ?_
  refine y_iconst 1 dL_law_978 (by decide) ?_
  refine y_iadd dL_law_979 ?_
  refine y_sld (j + 1) (hI 1 (by decide)).1 (hI 1 (by decide)).2 dL_law_980 ?_
  rw [hu1]
  refine y_aload_n dL_law_981 rfl ?_
  refine y_iload dL_law_982 rfl ?_
  refine y_iconst 2 dL_law_984 (by decide) ?_
  refine y_iadd dL_law_985 ?_
  refine y_sld (j + 2) (hI 2 (by decide)).1 (hI 2 (by decide)).2 dL_law_986 ?_
  rw [hu2]
  refine y_aload_n dL_law_987 rfl ?_
  obtain ⟨x1, hx0, h⟩ := kbG_bind h
  refine y_invSW cwL_146 (sp_L_worth hl n u1 u2 μ hx0) rfl rfl (Nat.le_of_ble_eq_true rfl) (kbRo_law (Nat.le_of_ble_eq_true rfl) (Nat.le_of_ble_eq_true rfl) (by omega) (by omega)) dL_law_988 ?_
  refine y_istore dL_law_991 (Nat.le_of_ble_eq_true rfl) rfl ?_
  refine y_aload_n dL_law_993 rfl ?_
  refine y_aload_n dL_law_994 rfl ?_
  refine y_iload dL_law_995 rfl ?_
  refine y_iconst 1 dL_law_997 (by decide) ?_
  refine y_iadd dL_law_998 ?_
  refine y_sld (j + 1) (hI 1 (by decide)).1 (hI 1 (by decide)).2 dL_law_999 ?_
  rw [hu1]
  refine y_aload_n dL_law_1000 rfl ?_
  refine y_iload dL_law_1001 rfl ?_
  refine y_iconst 2 dL_law_1003 (by decide) ?_
  refine y_iadd dL_law_1004 ?_
  refine y_sld (j + 2) (hI 2 (by decide)).1 (hI 2 (by decide)).2 dL_law_1005 ?_
  rw [hu2]
  obtain ⟨x2, hx0, h⟩ := kbG_bind h
  refine y_invV_i cvL_148 sh57 rfl (sp_MD_worth n u1 u2 x1.2 hx0) rfl rfl (Nat.le_of_ble_eq_true rfl) (kbRo_law (Nat.le_of_ble_eq_true rfl) (Nat.le_of_ble_eq_true rfl) (by omega) (by omega)) dL_law_1006 ?_
  refine y_istore dL_law_1009 (Nat.le_of_ble_eq_true rfl) rfl ?_
  refine y_aload_n dL_law_1011 rfl ?_
  obtain ⟨x3, hx0, h⟩ := kbG_bind h
  refine y_invV_i cvL_106 sh57 rfl (sp_MD_thrown x2.2 hx0) rfl rfl (Nat.le_of_ble_eq_true rfl) (kbRo_law (Nat.le_of_ble_eq_true rfl) (Nat.le_of_ble_eq_true rfl) (by omega) (by omega)) dL_law_1012 ?_
  refine y_iload dL_law_1015 rfl ?_
  refine y_icmp_eq 1022 dL_law_1017 (by decide) (fun hc => ?_) (fun hc => ?_)
  · replace h := kbG_t hc h
    refine y_iload dL_law_1022 rfl ?_
    refine y_if_ne 1039 dL_law_1024 (by decide) (fun hc => ?_) (fun hc => ?_)
    · replace h := kbG_f hc h
      refine y_goto 2000 dL_law_1039 (by decide) ?_
      refine y_le [some (.ref 4000), some (.ref 0), some (.ref 57), some (.ref 97), some (.int i), none, none, none] ⟨rfl, ⟨rfl, ⟨rfl, ⟨rfl, ⟨rfl, trivial⟩⟩⟩⟩⟩ ?_
      exact y_widen (by omega) (by omega) (kk _ (kbG_some h))
    · replace h := kbG_t hc h
      refine y_aload_n dL_law_1027 rfl ?_
      refine y_iconst 0 dL_law_1028 (by decide) ?_
      refine yq_lald 0 (by decide) sh97 (kbIn_of (by decide)) dL_law_1029 ?_
      refine y_iload dL_law_1030 rfl ?_
      refine y_i2l dL_law_1032 ?_
      refine y_lcmp dL_law_1033 ?_
      refine y_if_eq 1039 dL_law_1034 (by decide) (fun hc => ?_) (fun hc => ?_)
      · replace h := kbG_t hc h
        refine y_goto 2000 dL_law_1039 (by decide) ?_
        refine y_le [some (.ref 4000), some (.ref 0), some (.ref 57), some (.ref 97), some (.int i), none, none, none] ⟨rfl, ⟨rfl, ⟨rfl, ⟨rfl, ⟨rfl, trivial⟩⟩⟩⟩⟩ ?_
        exact y_widen (by omega) (by omega) (kk _ (kbG_some h))
      · replace h := kbG_f hc h
        exact absurd h kbG_none
  · replace h := kbG_f hc h
    exact absurd h kbG_none
def c_law_14 (n : Nat) (u1 : Int32) (u2 : Int32) (μ : kbM) : Option kbM :=
  (f_L_part n u1 u2 μ).bind fun x1 =>
  (f_MD_part n u1 u2 x1.2).bind fun x2 =>
  (f_MD_thrown x2.2).bind fun x3 =>
  if x3 = x1.1 then
    if x1.1 = 0 then
      if (lg_cmp (x2.2.2 97 0) x2.1.toInt64) = 0 then
        some x2.2
      else
        none
    else
      some x2.2
  else
    none
theorem cR_law_14 {l : Launch} (hl : l.stackTraces = false) (n : Nat) {b L j : Nat} {xs : Nat → Int32} {i : Int32} (hI : kbIdx L j i) {ck cn : Nat} (hck : ck + 4 ≤ 601024) (hcn : cn + 24 ≤ 7293034) (u1 : Int32) (u2 : Int32) (hu1 : xs (j + 1) = u1) (hu2 : xs (j + 2) = u2) (μ : kbM) {P : kbM → Prop} (h : kbG (c_law_14 n u1 u2 μ) P) (kk : ∀ μ' : kbM, P μ' → kbY l ML_law [] room_1 (ck + 4) (cn + 24) (kbFlaw b L xs) 2000 [some (.ref 4000), some (.ref 0), some (.ref 57), some (.ref 97), some (.int i), none, none, none] [] μ') : kbY l ML_law [] room_1 ck cn (kbFlaw b L xs) 1042 [some (.ref 4000), some (.ref 0), some (.ref 57), some (.ref 97), some (.int i), none, none, none] [] μ := by
  unfold c_law_14 at h
  refine y_aload_n dL_law_1042 rfl ?_
  refine y_aload_n dL_law_1043 rfl ?_
  refine y_iload dL_law_1044 rfl ?_
  refine y_iconst 1 dL_law_1046 (by decide) ?_
  refine y_iadd dL_law_1047 ?_
  refine y_sld (j + 1) (hI 1 (by decide)).1 (hI 1 (by decide)).2 dL_law_1048 ?_
  rw [hu1]
  refine y_aload_n dL_law_1049 rfl ?_
  refine y_iload dL_law_1050 rfl ?_
  refine y_iconst 2 dL_law_1052 (by decide) ?_
  refine y_iadd dL_law_1053 ?_
  refine y_sld (j + 2) (hI 2 (by decide)).1 (hI 2 (by decide)).2 dL_law_1054 ?_
  rw [hu2]
  refine y_aload_n dL_law_1055 rfl ?_
  obtain ⟨x1, hx0, h⟩ := kbG_bind h
  refine y_invSW cwL_149 (sp_L_part hl n u1 u2 μ hx0) rfl rfl (Nat.le_of_ble_eq_true rfl) (kbRo_law (Nat.le_of_ble_eq_true rfl) (Nat.le_of_ble_eq_true rfl) (by omega) (by omega)) dL_law_1056 ?_
  refine y_istore dL_law_1059 (Nat.le_of_ble_eq_true rfl) rfl ?_
  refine y_aload_n dL_law_1061 rfl ?_
  refine y_aload_n dL_law_1062 rfl ?_
  refine y_iload dL_law_1063 rfl ?_
  refine y_iconst 1 dL_law_1065 (by decide) ?_
  refine y_iadd dL_law_1066 ?_
  refine y_sld (j + 1) (hI 1 (by decide)).1 (hI 1 (by decide)).2 dL_law_1067 ?_
  rw [hu1]
  refine y_aload_n dL_law_1068 rfl ?_
  refine y_iload dL_law_1069 rfl ?_
  refine y_iconst 2 dL_law_1071 (by decide) ?_
  refine y_iadd dL_law_1072 ?_
  refine y_sld (j + 2) (hI 2 (by decide)).1 (hI 2 (by decide)).2 dL_law_1073 ?_
  rw [hu2]
  obtain ⟨x2, hx0, h⟩ := kbG_bind h
  refine y_invV_i cvL_151 sh57 rfl (sp_MD_part n u1 u2 x1.2 hx0) rfl rfl (Nat.le_of_ble_eq_true rfl) (kbRo_law (Nat.le_of_ble_eq_true rfl) (Nat.le_of_ble_eq_true rfl) (by omega) (by omega)) dL_law_1074 ?_
  refine y_istore dL_law_1077 (Nat.le_of_ble_eq_true rfl) rfl ?_
  refine y_aload_n dL_law_1079 rfl ?_
  obtain ⟨x3, hx0, h⟩ := kbG_bind h
  refine y_invV_i cvL_106 sh57 rfl (sp_MD_thrown x2.2 hx0) rfl rfl (Nat.le_of_ble_eq_true rfl) (kbRo_law (Nat.le_of_ble_eq_true rfl) (Nat.le_of_ble_eq_true rfl) (by omega) (by omega)) dL_law_1080 ?_
  refine y_iload dL_law_1083 rfl ?_
  refine y_icmp_eq 1090 dL_law_1085 (by decide) (fun hc => ?_) (fun hc => ?_)
  · replace h := kbG_t hc h
    refine y_iload dL_law_1090 rfl ?_
    refine y_if_ne 1107 dL_law_1092 (by decide) (fun hc => ?_) (fun hc => ?_)
    · replace h := kbG_f hc h
      refine y_goto 2000 dL_law_1107 (by decide) ?_
      refine y_le [some (.ref 4000), some (.ref 0), some (.ref 57), some (.ref 97), some (.int i), none, none, none] ⟨rfl, ⟨rfl, ⟨rfl, ⟨rfl, ⟨rfl, trivial⟩⟩⟩⟩⟩ ?_
      exact y_widen (by omega) (by omega) (kk _ (kbG_some h))
    · replace h := kbG_t hc h
      refine y_aload_n dL_law_1095 rfl ?_
      refine y_iconst 0 dL_law_1096 (by decide) ?_
      refine yq_lald 0 (by decide) sh97 (kbIn_of (by decide)) dL_law_1097 ?_
      refine y_iload dL_law_1098 rfl ?_
      refine y_i2l dL_law_1100 ?_
      refine y_lcmp dL_law_1101 ?_
      refine y_if_eq 1107 dL_law_1102 (by decide) (fun hc => ?_) (fun hc => ?_)
      · replace h := kbG_t hc h
        refine y_goto 2000 dL_law_1107 (by decide) ?_
        refine y_le [some (.ref 4000), some (.ref 0), some (.ref 57), some (.ref 97), some (.int i), none, none, none] ⟨rfl, ⟨rfl, ⟨rfl, ⟨rfl, ⟨rfl, trivial⟩⟩⟩⟩⟩ ?_
        exact y_widen (by omega) (by omega) (kk _ (kbG_some h))
      · replace h := kbG_f hc h
        exact absurd h kbG_none
  · replace h := kbG_f hc h
    exact absurd h kbG_none
def c_law_15 (n : Nat) (u1 : Int32) (u2 : Int32) (μ : kbM) : Option kbM :=
  if u2 = 0 then
    (f_L_rain n u1 0 μ).bind fun x1 =>
    if u2 = 0 then
      (f_MD_rain n u1 0 x1.2).bind fun x2 =>
      (f_MD_thrown x2.2).bind fun x3 =>
      if x3 = x1.1 then
        if x1.1 = 0 then
          if x2.1 = 0 then
            if (lg_cmp (x2.2.2 97 0) 0) = 0 then
              some x2.2
            else
              none
          else
            if (lg_cmp (x2.2.2 97 0) 1) = 0 then
              some x2.2
            else
              none
        else
          some x2.2
      else
        none
    else
      (f_MD_rain n u1 1 x1.2).bind fun x4 =>
      (f_MD_thrown x4.2).bind fun x5 =>
      if x5 = x1.1 then
        if x1.1 = 0 then
          if x4.1 = 0 then
            if (lg_cmp (x4.2.2 97 0) 0) = 0 then
              some x4.2
            else
              none
          else
            if (lg_cmp (x4.2.2 97 0) 1) = 0 then
              some x4.2
            else
              none
        else
          some x4.2
      else
        none
  else
    (f_L_rain n u1 1 μ).bind fun x6 =>
    if u2 = 0 then
      (f_MD_rain n u1 0 x6.2).bind fun x7 =>
      (f_MD_thrown x7.2).bind fun x8 =>
      if x8 = x6.1 then
        if x6.1 = 0 then
          if x7.1 = 0 then
            if (lg_cmp (x7.2.2 97 0) 0) = 0 then
              some x7.2
            else
              none
          else
            if (lg_cmp (x7.2.2 97 0) 1) = 0 then
              some x7.2
            else
              none
        else
          some x7.2
      else
        none
    else
      (f_MD_rain n u1 1 x6.2).bind fun x9 =>
      (f_MD_thrown x9.2).bind fun x10 =>
      if x10 = x6.1 then
        if x6.1 = 0 then
          if x9.1 = 0 then
            if (lg_cmp (x9.2.2 97 0) 0) = 0 then
              some x9.2
            else
              none
          else
            if (lg_cmp (x9.2.2 97 0) 1) = 0 then
              some x9.2
            else
              none
        else
          some x9.2
      else
        none
theorem cR_law_15 {l : Launch} (hl : l.stackTraces = false) (n : Nat) {b L j : Nat} {xs : Nat → Int32} {i : Int32} (hI : kbIdx L j i) {ck cn : Nat} (hck : ck + 4 ≤ 601024) (hcn : cn + 24 ≤ 7293034) (u1 : Int32) (u2 : Int32) (hu1 : xs (j + 1) = u1) (hu2 : xs (j + 2) = u2) (μ : kbM) {P : kbM → Prop} (h : kbG (c_law_15 n u1 u2 μ) P) (kk : ∀ μ' : kbM, P μ' → kbY l ML_law [] room_1 (ck + 4) (cn + 24) (kbFlaw b L xs) 2000 [some (.ref 4000), some (.ref 0), some (.ref 57), some (.ref 97), some (.int i), none, none, none] [] μ') : kbY l ML_law [] room_1 ck cn (kbFlaw b L xs) 1110 [some (.ref 4000), some (.ref 0), some (.ref 57), some (.ref 97), some (.int i), none, none, none] [] μ := by
  unfold c_law_15 at h
  refine y_aload_n dL_law_1110 rfl ?_
  refine y_aload_n dL_law_1111 rfl ?_
  refine y_iload dL_law_1112 rfl ?_
  refine y_iconst 1 dL_law_1114 (by decide) ?_
  refine y_iadd dL_law_1115 ?_
  refine y_sld (j + 1) (hI 1 (by decide)).1 (hI 1 (by decide)).2 dL_law_1116 ?_
  rw [hu1]
  refine y_aload_n dL_law_1117 rfl ?_
  refine y_iload dL_law_1118 rfl ?_
  refine y_iconst 2 dL_law_1120 (by decide) ?_
  refine y_iadd dL_law_1121 ?_
  refine y_sld (j + 2) (hI 2 (by decide)).1 (hI 2 (by decide)).2 dL_law_1122 ?_
  rw [hu2]
  refine y_if_eq 1130 dL_law_1123 (by decide) (fun hc => ?_) (fun hc => ?_)
  · replace h := kbG_t hc h
    refine y_iconst 0 dL_law_1130 (by decide) ?_
    refine y_aload_n dL_law_1131 rfl ?_
    obtain ⟨x1, hx0, h⟩ := kbG_bind h
    refine y_invSW cwL_152 (sp_L_rain hl n u1 0 μ hx0) rfl rfl (Nat.le_of_ble_eq_true rfl) (kbRo_law (Nat.le_of_ble_eq_true rfl) (Nat.le_of_ble_eq_true rfl) (by omega) (by omega)) dL_law_1132 ?_
    refine y_istore dL_law_1135 (Nat.le_of_ble_eq_true rfl) rfl ?_
    refine y_aload_n dL_law_1137 rfl ?_
    refine y_aload_n dL_law_1138 rfl ?_
    refine y_iload dL_law_1139 rfl ?_
    refine y_iconst 1 dL_law_1141 (by decide) ?_
    refine y_iadd dL_law_1142 ?_
    refine y_sld (j + 1) (hI 1 (by decide)).1 (hI 1 (by decide)).2 dL_law_1143 ?_
    rw [hu1]
    refine y_aload_n dL_law_1144 rfl ?_
    refine y_iload dL_law_1145 rfl ?_
    refine y_iconst 2 dL_law_1147 (by decide) ?_
    refine y_iadd dL_law_1148 ?_
    refine y_sld (j + 2) (hI 2 (by decide)).1 (hI 2 (by decide)).2 dL_law_1149 ?_
    rw [hu2]
    refine y_if_eq 1157 dL_law_1150 (by decide) (fun hc => ?_) (fun hc => ?_)
    · replace h := kbG_t hc h
      refine y_iconst 0 dL_law_1157 (by decide) ?_
      obtain ⟨x2, hx0, h⟩ := kbG_bind h
      refine y_invV_i cvL_155 sh57 rfl (sp_MD_rain n u1 0 x1.2 hx0) rfl rfl (Nat.le_of_ble_eq_true rfl) (kbRo_law (Nat.le_of_ble_eq_true rfl) (Nat.le_of_ble_eq_true rfl) (by omega) (by omega)) dL_law_1158 ?_
      refine y_istore dL_law_1161 (Nat.le_of_ble_eq_true rfl) rfl ?_
      refine y_aload_n dL_law_1163 rfl ?_
      obtain ⟨x3, hx0, h⟩ := kbG_bind h
      refine y_invV_i cvL_106 sh57 rfl (sp_MD_thrown x2.2 hx0) rfl rfl (Nat.le_of_ble_eq_true rfl) (kbRo_law (Nat.le_of_ble_eq_true rfl) (Nat.le_of_ble_eq_true rfl) (by omega) (by omega)) dL_law_1164 ?_
      refine y_iload dL_law_1167 rfl ?_
      refine y_icmp_eq 1174 dL_law_1169 (by decide) (fun hc => ?_) (fun hc => ?_)
      · replace h := kbG_t hc h
        refine y_iload dL_law_1174 rfl ?_
        refine y_if_ne 1198 dL_law_1176 (by decide) (fun hc => ?_) (fun hc => ?_)
        · replace h := kbG_f hc h
          refine y_goto 2000 dL_law_1198 (by decide) ?_
          refine y_le [some (.ref 4000), some (.ref 0), some (.ref 57), some (.ref 97), some (.int i), none, none, none] ⟨rfl, ⟨rfl, ⟨rfl, ⟨rfl, ⟨rfl, trivial⟩⟩⟩⟩⟩ ?_
          exact y_widen (by omega) (by omega) (kk _ (kbG_some h))
        · replace h := kbG_t hc h
          refine y_aload_n dL_law_1179 rfl ?_
          refine y_iconst 0 dL_law_1180 (by decide) ?_
          refine yq_lald 0 (by decide) sh97 (kbIn_of (by decide)) dL_law_1181 ?_
          refine y_iload dL_law_1182 rfl ?_
          refine y_if_eq 1191 dL_law_1184 (by decide) (fun hc => ?_) (fun hc => ?_)
          · replace h := kbG_t hc h
            refine y_lconst 0 dL_law_1191 (by decide) ?_
            refine y_lcmp dL_law_1192 ?_
            refine y_if_eq 1198 dL_law_1193 (by decide) (fun hc => ?_) (fun hc => ?_)
            · replace h := kbG_t hc h
              refine y_goto 2000 dL_law_1198 (by decide) ?_
              refine y_le [some (.ref 4000), some (.ref 0), some (.ref 57), some (.ref 97), some (.int i), none, none, none] ⟨rfl, ⟨rfl, ⟨rfl, ⟨rfl, ⟨rfl, trivial⟩⟩⟩⟩⟩ ?_
              exact y_widen (by omega) (by omega) (kk _ (kbG_some h))
            · replace h := kbG_f hc h
              exact absurd h kbG_none
          · replace h := kbG_f hc h
            refine y_lconst 1 dL_law_1187 (by decide) ?_
            refine y_goto 1192 dL_law_1188 (by decide) ?_
            refine y_lcmp dL_law_1192 ?_
            refine y_if_eq 1198 dL_law_1193 (by decide) (fun hc => ?_) (fun hc => ?_)
            · replace h := kbG_t hc h
              refine y_goto 2000 dL_law_1198 (by decide) ?_
              refine y_le [some (.ref 4000), some (.ref 0), some (.ref 57), some (.ref 97), some (.int i), none, none, none] ⟨rfl, ⟨rfl, ⟨rfl, ⟨rfl, ⟨rfl, trivial⟩⟩⟩⟩⟩ ?_
              exact y_widen (by omega) (by omega) (kk _ (kbG_some h))
            · replace h := kbG_f hc h
              exact absurd h kbG_none
      · replace h := kbG_f hc h
        exact absurd h kbG_none
    · replace h := kbG_f hc h
      refine y_iconst 1 dL_law_1153 (by decide) ?_
      refine y_goto 1158 dL_law_1154 (by decide) ?_
      obtain ⟨x4, hx0, h⟩ := kbG_bind h
      refine y_invV_i cvL_155 sh57 rfl (sp_MD_rain n u1 1 x1.2 hx0) rfl rfl (Nat.le_of_ble_eq_true rfl) (kbRo_law (Nat.le_of_ble_eq_true rfl) (Nat.le_of_ble_eq_true rfl) (by omega) (by omega)) dL_law_1158 ?_
      refine y_istore dL_law_1161 (Nat.le_of_ble_eq_true rfl) rfl ?_
      refine y_aload_n dL_law_1163 rfl ?_
      obtain ⟨x5, hx0, h⟩ := kbG_bind h
      refine y_invV_i cvL_106 sh57 rfl (sp_MD_thrown x4.2 hx0) rfl rfl (Nat.le_of_ble_eq_true rfl) (kbRo_law (Nat.le_of_ble_eq_true rfl) (Nat.le_of_ble_eq_true rfl) (by omega) (by omega)) dL_law_1164 ?_
      refine y_iload dL_law_1167 rfl ?_
      refine y_icmp_eq 1174 dL_law_1169 (by decide) (fun hc => ?_) (fun hc => ?_)
      · replace h := kbG_t hc h
        refine y_iload dL_law_1174 rfl ?_
        refine y_if_ne 1198 dL_law_1176 (by decide) (fun hc => ?_) (fun hc => ?_)
        · replace h := kbG_f hc h
          refine y_goto 2000 dL_law_1198 (by decide) ?_
          refine y_le [some (.ref 4000), some (.ref 0), some (.ref 57), some (.ref 97), some (.int i), none, none, none] ⟨rfl, ⟨rfl, ⟨rfl, ⟨rfl, ⟨rfl, trivial⟩⟩⟩⟩⟩ ?_
          exact y_widen (by omega) (by omega) (kk _ (kbG_some h))
        · replace h := kbG_t hc h
          refine y_aload_n dL_law_1179 rfl ?_
          refine y_iconst 0 dL_law_1180 (by decide) ?_
          refine yq_lald 0 (by decide) sh97 (kbIn_of (by decide)) dL_law_1181 ?_
          refine y_iload dL_law_1182 rfl ?_
          refine y_if_eq 1191 dL_law_1184 (by decide) (fun hc => ?_) (fun hc => ?_)
          · replace h := kbG_t hc h
            refine y_lconst 0 dL_law_1191 (by decide) ?_
            refine y_lcmp dL_law_1192 ?_
            refine y_if_eq 1198 dL_law_1193 (by decide) (fun hc => ?_) (fun hc => ?_)
            · replace h := kbG_t hc h
              refine y_goto 2000 dL_law_1198 (by decide) ?_
              refine y_le [some (.ref 4000), some (.ref 0), some (.ref 57), some (.ref 97), some (.int i), none, none, none] ⟨rfl, ⟨rfl, ⟨rfl, ⟨rfl, ⟨rfl, trivial⟩⟩⟩⟩⟩ ?_
              exact y_widen (by omega) (by omega) (kk _ (kbG_some h))
            · replace h := kbG_f hc h
              exact absurd h kbG_none
          · replace h := kbG_f hc h
            refine y_lconst 1 dL_law_1187 (by decide) ?_
            refine y_goto 1192 dL_law_1188 (by decide) ?_
            refine y_lcmp dL_law_1192 ?_
            refine y_if_eq 1198 dL_law_1193 (by decide) (fun hc => ?_) (fun hc => ?_)
            · replace h := kbG_t hc h
              refine y_goto 2000 dL_law_1198 (by decide) ?_
              refine y_le [some (.ref 4000), some (.ref 0), some (.ref 57), some (.ref 97), some (.int i), none, none, none] ⟨rfl, ⟨rfl, ⟨rfl, ⟨rfl, ⟨rfl, trivial⟩⟩⟩⟩⟩ ?_
              exact y_widen (by omega) (by omega) (kk _ (kbG_some h))
            · replace h := kbG_f hc h
              exact absurd h kbG_none
      · replace h := kbG_f hc h
        exact absurd h kbG_none
  · replace h := kbG_f hc h
    refine y_iconst 1 dL_law_1126 (by decide) ?_
    refine y_goto 1131 dL_law_1127 (by decide) ?_
    refine y_aload_n dL_law_1131 rfl ?_
    obtain ⟨x6, hx0, h⟩ := kbG_bind h
    refine y_invSW cwL_152 (sp_L_rain hl n u1 1 μ hx0) rfl rfl (Nat.le_of_ble_eq_true rfl) (kbRo_law (Nat.le_of_ble_eq_true rfl) (Nat.le_of_ble_eq_true rfl) (by omega) (by omega)) dL_law_1132 ?_
    refine y_istore dL_law_1135 (Nat.le_of_ble_eq_true rfl) rfl ?_
    refine y_aload_n dL_law_1137 rfl ?_
    refine y_aload_n dL_law_1138 rfl ?_
    refine y_iload dL_law_1139 rfl ?_
    refine y_iconst 1 dL_law_1141 (by decide) ?_
    refine y_iadd dL_law_1142 ?_
    refine y_sld (j + 1) (hI 1 (by decide)).1 (hI 1 (by decide)).2 dL_law_1143 ?_
    rw [hu1]
    refine y_aload_n dL_law_1144 rfl ?_
    refine y_iload dL_law_1145 rfl ?_
    refine y_iconst 2 dL_law_1147 (by decide) ?_
    refine y_iadd dL_law_1148 ?_
    refine y_sld (j + 2) (hI 2 (by decide)).1 (hI 2 (by decide)).2 dL_law_1149 ?_
    rw [hu2]
    refine y_if_eq 1157 dL_law_1150 (by decide) (fun hc => ?_) (fun hc => ?_)
    · replace h := kbG_t hc h
      refine y_iconst 0 dL_law_1157 (by decide) ?_
      obtain ⟨x7, hx0, h⟩ := kbG_bind h
      refine y_invV_i cvL_155 sh57 rfl (sp_MD_rain n u1 0 x6.2 hx0) rfl rfl (Nat.le_of_ble_eq_true rfl) (kbRo_law (Nat.le_of_ble_eq_true rfl) (Nat.le_of_ble_eq_true rfl) (by omega) (by omega)) dL_law_1158 ?_
      refine y_istore dL_law_1161 (Nat.le_of_ble_eq_true rfl) rfl ?_
      refine y_aload_n dL_law_1163 rfl ?_
      obtain ⟨x8, hx0, h⟩ := kbG_bind h
      refine y_invV_i cvL_106 sh57 rfl (sp_MD_thrown x7.2 hx0) rfl rfl (Nat.le_of_ble_eq_true rfl) (kbRo_law (Nat.le_of_ble_eq_true rfl) (Nat.le_of_ble_eq_true rfl) (by omega) (by omega)) dL_law_1164 ?_
      refine y_iload dL_law_1167 rfl ?_
      refine y_icmp_eq 1174 dL_law_1169 (by decide) (fun hc => ?_) (fun hc => ?_)
      · replace h := kbG_t hc h
        refine y_iload dL_law_1174 rfl ?_
        refine y_if_ne 1198 dL_law_1176 (by decide) (fun hc => ?_) (fun hc => ?_)
        · replace h := kbG_f hc h
          refine y_goto 2000 dL_law_1198 (by decide) ?_
          refine y_le [some (.ref 4000), some (.ref 0), some (.ref 57), some (.ref 97), some (.int i), none, none, none] ⟨rfl, ⟨rfl, ⟨rfl, ⟨rfl, ⟨rfl, trivial⟩⟩⟩⟩⟩ ?_
          exact y_widen (by omega) (by omega) (kk _ (kbG_some h))
        · replace h := kbG_t hc h
          refine y_aload_n dL_law_1179 rfl ?_
          refine y_iconst 0 dL_law_1180 (by decide) ?_
          refine yq_lald 0 (by decide) sh97 (kbIn_of (by decide)) dL_law_1181 ?_
          refine y_iload dL_law_1182 rfl ?_
          refine y_if_eq 1191 dL_law_1184 (by decide) (fun hc => ?_) (fun hc => ?_)
          · replace h := kbG_t hc h
            refine y_lconst 0 dL_law_1191 (by decide) ?_
            refine y_lcmp dL_law_1192 ?_
            refine y_if_eq 1198 dL_law_1193 (by decide) (fun hc => ?_) (fun hc => ?_)
            · replace h := kbG_t hc h
              refine y_goto 2000 dL_law_1198 (by decide) ?_
              refine y_le [some (.ref 4000), some (.ref 0), some (.ref 57), some (.ref 97), some (.int i), none, none, none] ⟨rfl, ⟨rfl, ⟨rfl, ⟨rfl, ⟨rfl, trivial⟩⟩⟩⟩⟩ ?_
              exact y_widen (by omega) (by omega) (kk _ (kbG_some h))
            · replace h := kbG_f hc h
              exact absurd h kbG_none
          · replace h := kbG_f hc h
            refine y_lconst 1 dL_law_1187 (by decide) ?_
            refine y_goto 1192 dL_law_1188 (by decide) ?_
            refine y_lcmp dL_law_1192 ?_
            refine y_if_eq 1198 dL_law_1193 (by decide) (fun hc => ?_) (fun hc => ?_)
            · replace h := kbG_t hc h
              refine y_goto 2000 dL_law_1198 (by decide) ?_
              refine y_le [some (.ref 4000), some (.ref 0), some (.ref 57), some (.ref 97), some (.int i), none, none, none] ⟨rfl, ⟨rfl, ⟨rfl, ⟨rfl, ⟨rfl, trivial⟩⟩⟩⟩⟩ ?_
              exact y_widen (by omega) (by omega) (kk _ (kbG_some h))
            · replace h := kbG_f hc h
              exact absurd h kbG_none
      · replace h := kbG_f hc h
        exact absurd h kbG_none
    · replace h := kbG_f hc h
      refine y_iconst 1 dL_law_1153 (by decide) ?_
      refine y_goto 1158 dL_law_1154 (by decide) ?_
      obtain ⟨x9, hx0, h⟩ := kbG_bind h
      refine y_invV_i cvL_155 sh57 rfl (sp_MD_rain n u1 1 x6.2 hx0) rfl rfl (Nat.le_of_ble_eq_true rfl) (kbRo_law (Nat.le_of_ble_eq_true rfl) (Nat.le_of_ble_eq_true rfl) (by omega) (by omega)) dL_law_1158 ?_
      refine y_istore dL_law_1161 (Nat.le_of_ble_eq_true rfl) rfl ?_
      refine y_aload_n dL_law_1163 rfl ?_
      obtain ⟨x10, hx0, h⟩ := kbG_bind h
      refine y_invV_i cvL_106 sh57 rfl (sp_MD_thrown x9.2 hx0) rfl rfl (Nat.le_of_ble_eq_true rfl) (kbRo_law (Nat.le_of_ble_eq_true rfl) (Nat.le_of_ble_eq_true rfl) (by omega) (by omega)) dL_law_1164 ?_
      refine y_iload dL_law_1167 rfl ?_
      refine y_icmp_eq 1174 dL_law_1169 (by decide) (fun hc => ?_) (fun hc => ?_)
      · replace h := kbG_t hc h
        refine y_iload dL_law_1174 rfl ?_
        refine y_if_ne 1198 dL_law_1176 (by decide) (fun hc => ?_) (fun hc => ?_)
        · replace h := kbG_f hc h
          refine y_goto 2000 dL_law_1198 (by decide) ?_
          refine y_le [some (.ref 4000), some (.ref 0), some (.ref 57), some (.ref 97), some (.int i), none, none, none] ⟨rfl, ⟨rfl, ⟨rfl, ⟨rfl, ⟨rfl, trivial⟩⟩⟩⟩⟩ ?_
          exact y_widen (by omega) (by omega) (kk _ (kbG_some h))
        · replace h := kbG_t hc h
          refine y_aload_n dL_law_1179 rfl ?_
          refine y_iconst 0 dL_law_1180 (by decide) ?_
          refine yq_lald 0 (by decide) sh97 (kbIn_of (by decide)) dL_law_1181 ?_
          refine y_iload dL_law_1182 rfl ?_
          refine y_if_eq 1191 dL_law_1184 (by decide) (fun hc => ?_) (fun hc => ?_)
          · replace h := kbG_t hc h
            refine y_lconst 0 dL_law_1191 (by decide) ?_
            refine y_lcmp dL_law_1192 ?_
            refine y_if_eq 1198 dL_law_1193 (by decide) (fun hc => ?_) (fun hc => ?_)
            · replace h := kbG_t hc h
              refine y_goto 2000 dL_law_1198 (by decide) ?_
              refine y_le [some (.ref 4000), some (.ref 0), some (.ref 57), some (.ref 97), some (.int i), none, none, none] ⟨rfl, ⟨rfl, ⟨rfl, ⟨rfl, ⟨rfl, trivial⟩⟩⟩⟩⟩ ?_
              exact y_widen (by omega) (by omega) (kk _ (kbG_some h))
            · replace h := kbG_f hc h
              exact absurd h kbG_none
          · replace h := kbG_f hc h
            refine y_lconst 1 dL_law_1187 (by decide) ?_
            refine y_goto 1192 dL_law_1188 (by decide) ?_
            refine y_lcmp dL_law_1192 ?_
            refine y_if_eq 1198 dL_law_1193 (by decide) (fun hc => ?_) (fun hc => ?_)
            · replace h := kbG_t hc h
              refine y_goto 2000 dL_law_1198 (by decide) ?_
              refine y_le [some (.ref 4000), some (.ref 0), some (.ref 57), some (.ref 97), some (.int i), none, none, none] ⟨rfl, ⟨rfl, ⟨rfl, ⟨rfl, ⟨rfl, trivial⟩⟩⟩⟩⟩ ?_
              exact y_widen (by omega) (by omega) (kk _ (kbG_some h))
            · replace h := kbG_f hc h
              exact absurd h kbG_none
      · replace h := kbG_f hc h
        exact absurd h kbG_none
def c_law_16 (n : Nat)  (μ : kbM) : Option kbM :=
  (f_KB_undo n μ).bind fun x1 =>
  (f_MD_undo n x1.2).bind fun x2 =>
  if x1.1 = x2.1 then
    some x2.2
  else
    none
theorem cR_law_16 {l : Launch} (hl : l.stackTraces = false) (n : Nat) {b L j : Nat} {xs : Nat → Int32} {i : Int32} (hI : kbIdx L j i) {ck cn : Nat} (hck : ck + 4 ≤ 601024) (hcn : cn + 24 ≤ 7293034)   (μ : kbM) {P : kbM → Prop} (h : kbG (c_law_16 n  μ) P) (kk : ∀ μ' : kbM, P μ' → kbY l ML_law [] room_1 (ck + 4) (cn + 24) (kbFlaw b L xs) 2000 [some (.ref 4000), some (.ref 0), some (.ref 57), some (.ref 97), some (.int i), none, none, none] [] μ') : kbY l ML_law [] room_1 ck cn (kbFlaw b L xs) 1201 [some (.ref 4000), some (.ref 0), some (.ref 57), some (.ref 97), some (.int i), none, none, none] [] μ := by
  unfold c_law_16 at h
  refine y_aload_n dL_law_1201 rfl ?_
  obtain ⟨x1, hx0, h⟩ := kbG_bind h
  refine y_invV_i cvL_156 sh0 rfl (sp_KB_undo n μ hx0) rfl rfl (Nat.le_of_ble_eq_true rfl) (kbRo_law (Nat.le_of_ble_eq_true rfl) (Nat.le_of_ble_eq_true rfl) (by omega) (by omega)) dL_law_1202 ?_
  refine y_aload_n dL_law_1205 rfl ?_
  obtain ⟨x2, hx0, h⟩ := kbG_bind h
  refine y_invV_i cvL_159 sh57 rfl (sp_MD_undo n x1.2 hx0) rfl rfl (Nat.le_of_ble_eq_true rfl) (kbRo_law (Nat.le_of_ble_eq_true rfl) (Nat.le_of_ble_eq_true rfl) (by omega) (by omega)) dL_law_1206 ?_
  refine y_icmp_eq 2000 dL_law_1209 (by decide) (fun hc => ?_) (fun hc => ?_)
  · replace h := kbG_t hc h
    refine y_le [some (.ref 4000), some (.ref 0), some (.ref 57), some (.ref 97), some (.int i), none, none, none] ⟨rfl, ⟨rfl, ⟨rfl, ⟨rfl, ⟨rfl, trivial⟩⟩⟩⟩⟩ ?_
    exact y_widen (by omega) (by omega) (kk _ (kbG_some h))
  · replace h := kbG_f hc h
    exact absurd h kbG_none
def c_law_17 (n : Nat) (u1 : Int32) (μ : kbM) : Option kbM :=
  (f_L_mend n u1 μ).bind fun x1 =>
  (f_MD_mend n u1 x1.2).bind fun x2 =>
  (f_MD_thrown x2.2).bind fun x3 =>
  if x3 = x1.1 then
    if x1.1 = 0 then
      if (lg_cmp (x2.2.2 97 0) x2.1.toInt64) = 0 then
        some x2.2
      else
        none
    else
      some x2.2
  else
    none
theorem cR_law_17 {l : Launch} (hl : l.stackTraces = false) (n : Nat) {b L j : Nat} {xs : Nat → Int32} {i : Int32} (hI : kbIdx L j i) {ck cn : Nat} (hck : ck + 4 ≤ 601024) (hcn : cn + 24 ≤ 7293034) (u1 : Int32) (hu1 : xs (j + 1) = u1) (μ : kbM) {P : kbM → Prop} (h : kbG (c_law_17 n u1 μ) P) (kk : ∀ μ' : kbM, P μ' → kbY l ML_law [] room_1 (ck + 4) (cn + 24) (kbFlaw b L xs) 2000 [some (.ref 4000), some (.ref 0), some (.ref 57), some (.ref 97), some (.int i), none, none, none] [] μ') : kbY l ML_law [] room_1 ck cn (kbFlaw b L xs) 1214 [some (.ref 4000), some (.ref 0), some (.ref 57), some (.ref 97), some (.int i), none, none, none] [] μ := by
  unfold c_law_17 at h
  refine y_aload_n dL_law_1214 rfl ?_
  refine y_aload_n dL_law_1215 rfl ?_
  refine y_iload dL_law_1216 rfl ?_
  refine y_iconst 1 dL_law_1218 (by decide) ?_
  refine y_iadd dL_law_1219 ?_
  refine y_sld (j + 1) (hI 1 (by decide)).1 (hI 1 (by decide)).2 dL_law_1220 ?_
  rw [hu1]
  refine y_aload_n dL_law_1221 rfl ?_
  obtain ⟨x1, hx0, h⟩ := kbG_bind h
  refine y_invSW cwL_160 (sp_L_mend hl n u1 μ hx0) rfl rfl (Nat.le_of_ble_eq_true rfl) (kbRo_law (Nat.le_of_ble_eq_true rfl) (Nat.le_of_ble_eq_true rfl) (by omega) (by omega)) dL_law_1222 ?_
  refine y_istore dL_law_1225 (Nat.le_of_ble_eq_true rfl) rfl ?_
  refine y_aload_n dL_law_1227 rfl ?_
  refine y_aload_n dL_law_1228 rfl ?_
  refine y_iload dL_law_1229 rfl ?_
  refine y_iconst 1 dL_law_1231 (by decide) ?_
  refine y_iadd dL_law_1232 ?_
  refine y_sld (j + 1) (hI 1 (by decide)).1 (hI 1 (by decide)).2 dL_law_1233 ?_
  rw [hu1]
  obtain ⟨x2, hx0, h⟩ := kbG_bind h
  refine y_invV_i cvL_162 sh57 rfl (sp_MD_mend n u1 x1.2 hx0) rfl rfl (Nat.le_of_ble_eq_true rfl) (kbRo_law (Nat.le_of_ble_eq_true rfl) (Nat.le_of_ble_eq_true rfl) (by omega) (by omega)) dL_law_1234 ?_
  refine y_istore dL_law_1237 (Nat.le_of_ble_eq_true rfl) rfl ?_
  refine y_aload_n dL_law_1239 rfl ?_
  obtain ⟨x3, hx0, h⟩ := kbG_bind h
  refine y_invV_i cvL_106 sh57 rfl (sp_MD_thrown x2.2 hx0) rfl rfl (Nat.le_of_ble_eq_true rfl) (kbRo_law (Nat.le_of_ble_eq_true rfl) (Nat.le_of_ble_eq_true rfl) (by omega) (by omega)) dL_law_1240 ?_
  refine y_iload dL_law_1243 rfl ?_
  refine y_icmp_eq 1250 dL_law_1245 (by decide) (fun hc => ?_) (fun hc => ?_)
  · replace h := kbG_t hc h
    refine y_iload dL_law_1250 rfl ?_
    refine y_if_ne 1267 dL_law_1252 (by decide) (fun hc => ?_) (fun hc => ?_)
    · replace h := kbG_f hc h
      refine y_goto 2000 dL_law_1267 (by decide) ?_
      refine y_le [some (.ref 4000), some (.ref 0), some (.ref 57), some (.ref 97), some (.int i), none, none, none] ⟨rfl, ⟨rfl, ⟨rfl, ⟨rfl, ⟨rfl, trivial⟩⟩⟩⟩⟩ ?_
      exact y_widen (by omega) (by omega) (kk _ (kbG_some h))
    · replace h := kbG_t hc h
      refine y_aload_n dL_law_1255 rfl ?_
      refine y_iconst 0 dL_law_1256 (by decide) ?_
      refine yq_lald 0 (by decide) sh97 (kbIn_of (by decide)) dL_law_1257 ?_
      refine y_iload dL_law_1258 rfl ?_
      refine y_i2l dL_law_1260 ?_
      refine y_lcmp dL_law_1261 ?_
      refine y_if_eq 1267 dL_law_1262 (by decide) (fun hc => ?_) (fun hc => ?_)
      · replace h := kbG_t hc h
        refine y_goto 2000 dL_law_1267 (by decide) ?_
        refine y_le [some (.ref 4000), some (.ref 0), some (.ref 57), some (.ref 97), some (.int i), none, none, none] ⟨rfl, ⟨rfl, ⟨rfl, ⟨rfl, ⟨rfl, trivial⟩⟩⟩⟩⟩ ?_
        exact y_widen (by omega) (by omega) (kk _ (kbG_some h))
      · replace h := kbG_f hc h
        exact absurd h kbG_none
  · replace h := kbG_f hc h
    exact absurd h kbG_none
def c_law_18 (n : Nat)  (μ : kbM) : Option kbM :=
  (f_KB_twoWays n μ).bind fun x1 =>
  (f_MD_twoWays n x1.2).bind fun x2 =>
  if x1.1 = x2.1 then
    some x2.2
  else
    none
theorem cR_law_18 {l : Launch} (hl : l.stackTraces = false) (n : Nat) {b L j : Nat} {xs : Nat → Int32} {i : Int32} (hI : kbIdx L j i) {ck cn : Nat} (hck : ck + 4 ≤ 601024) (hcn : cn + 24 ≤ 7293034)   (μ : kbM) {P : kbM → Prop} (h : kbG (c_law_18 n  μ) P) (kk : ∀ μ' : kbM, P μ' → kbY l ML_law [] room_1 (ck + 4) (cn + 24) (kbFlaw b L xs) 2000 [some (.ref 4000), some (.ref 0), some (.ref 57), some (.ref 97), some (.int i), none, none, none] [] μ') : kbY l ML_law [] room_1 ck cn (kbFlaw b L xs) 1270 [some (.ref 4000), some (.ref 0), some (.ref 57), some (.ref 97), some (.int i), none, none, none] [] μ := by
  unfold c_law_18 at h
  refine y_aload_n dL_law_1270 rfl ?_
  obtain ⟨x1, hx0, h⟩ := kbG_bind h
  refine y_invV_i cvL_163 sh0 rfl (sp_KB_twoWays n μ hx0) rfl rfl (Nat.le_of_ble_eq_true rfl) (kbRo_law (Nat.le_of_ble_eq_true rfl) (Nat.le_of_ble_eq_true rfl) (by omega) (by omega)) dL_law_1271 ?_
  refine y_aload_n dL_law_1274 rfl ?_
  obtain ⟨x2, hx0, h⟩ := kbG_bind h
  refine y_invV_i cvL_166 sh57 rfl (sp_MD_twoWays n x1.2 hx0) rfl rfl (Nat.le_of_ble_eq_true rfl) (kbRo_law (Nat.le_of_ble_eq_true rfl) (Nat.le_of_ble_eq_true rfl) (by omega) (by omega)) dL_law_1275 ?_
  refine y_icmp_eq 2000 dL_law_1278 (by decide) (fun hc => ?_) (fun hc => ?_)
  · replace h := kbG_t hc h
    refine y_le [some (.ref 4000), some (.ref 0), some (.ref 57), some (.ref 97), some (.int i), none, none, none] ⟨rfl, ⟨rfl, ⟨rfl, ⟨rfl, ⟨rfl, trivial⟩⟩⟩⟩⟩ ?_
    exact y_widen (by omega) (by omega) (kk _ (kbG_some h))
  · replace h := kbG_f hc h
    exact absurd h kbG_none
def c_law_19 (n : Nat)  (μ : kbM) : Option kbM :=
  (f_KB_prefixes n μ).bind fun x1 =>
  (f_MD_prefixes n μ).bind fun x2 =>
  if x1 = x2.1 then
    some x2.2
  else
    none
theorem cR_law_19 {l : Launch} (hl : l.stackTraces = false) (n : Nat) {b L j : Nat} {xs : Nat → Int32} {i : Int32} (hI : kbIdx L j i) {ck cn : Nat} (hck : ck + 4 ≤ 601024) (hcn : cn + 24 ≤ 7293034)   (μ : kbM) {P : kbM → Prop} (h : kbG (c_law_19 n  μ) P) (kk : ∀ μ' : kbM, P μ' → kbY l ML_law [] room_1 (ck + 4) (cn + 24) (kbFlaw b L xs) 2000 [some (.ref 4000), some (.ref 0), some (.ref 57), some (.ref 97), some (.int i), none, none, none] [] μ') : kbY l ML_law [] room_1 ck cn (kbFlaw b L xs) 1283 [some (.ref 4000), some (.ref 0), some (.ref 57), some (.ref 97), some (.int i), none, none, none] [] μ := by
  unfold c_law_19 at h
  refine y_aload_n dL_law_1283 rfl ?_
  obtain ⟨x1, hx0, h⟩ := kbG_bind h
  refine y_invV_i cvL_167 sh0 rfl (sp_KB_prefixes n μ hx0) rfl rfl (Nat.le_of_ble_eq_true rfl) (kbRo_law (Nat.le_of_ble_eq_true rfl) (Nat.le_of_ble_eq_true rfl) (by omega) (by omega)) dL_law_1284 ?_
  refine y_aload_n dL_law_1287 rfl ?_
  obtain ⟨x2, hx0, h⟩ := kbG_bind h
  refine y_invV_i cvL_170 sh57 rfl (sp_MD_prefixes n μ hx0) rfl rfl (Nat.le_of_ble_eq_true rfl) (kbRo_law (Nat.le_of_ble_eq_true rfl) (Nat.le_of_ble_eq_true rfl) (by omega) (by omega)) dL_law_1288 ?_
  refine y_icmp_eq 2000 dL_law_1291 (by decide) (fun hc => ?_) (fun hc => ?_)
  · replace h := kbG_t hc h
    refine y_le [some (.ref 4000), some (.ref 0), some (.ref 57), some (.ref 97), some (.int i), none, none, none] ⟨rfl, ⟨rfl, ⟨rfl, ⟨rfl, ⟨rfl, trivial⟩⟩⟩⟩⟩ ?_
    exact y_widen (by omega) (by omega) (kk _ (kbG_some h))
  · replace h := kbG_f hc h
    exact absurd h kbG_none
def c_law_20 (n : Nat)  (μ : kbM) : Option kbM :=
  (f_KB_tellApart n μ).bind fun x1 =>
  (f_MD_tellApart n x1.2).bind fun x2 =>
  if x1.1 = x2.1 then
    some x2.2
  else
    none
theorem cR_law_20 {l : Launch} (hl : l.stackTraces = false) (n : Nat) {b L j : Nat} {xs : Nat → Int32} {i : Int32} (hI : kbIdx L j i) {ck cn : Nat} (hck : ck + 4 ≤ 601024) (hcn : cn + 24 ≤ 7293034)   (μ : kbM) {P : kbM → Prop} (h : kbG (c_law_20 n  μ) P) (kk : ∀ μ' : kbM, P μ' → kbY l ML_law [] room_1 (ck + 4) (cn + 24) (kbFlaw b L xs) 2000 [some (.ref 4000), some (.ref 0), some (.ref 57), some (.ref 97), some (.int i), none, none, none] [] μ') : kbY l ML_law [] room_1 ck cn (kbFlaw b L xs) 1296 [some (.ref 4000), some (.ref 0), some (.ref 57), some (.ref 97), some (.int i), none, none, none] [] μ := by
  unfold c_law_20 at h
  refine y_aload_n dL_law_1296 rfl ?_
  obtain ⟨x1, hx0, h⟩ := kbG_bind h
  refine y_invV_i cvL_171 sh0 rfl (sp_KB_tellApart n μ hx0) rfl rfl (Nat.le_of_ble_eq_true rfl) (kbRo_law (Nat.le_of_ble_eq_true rfl) (Nat.le_of_ble_eq_true rfl) (by omega) (by omega)) dL_law_1297 ?_
  refine y_aload_n dL_law_1300 rfl ?_
  obtain ⟨x2, hx0, h⟩ := kbG_bind h
  refine y_invV_i cvL_174 sh57 rfl (sp_MD_tellApart n x1.2 hx0) rfl rfl (Nat.le_of_ble_eq_true rfl) (kbRo_law (Nat.le_of_ble_eq_true rfl) (Nat.le_of_ble_eq_true rfl) (by omega) (by omega)) dL_law_1301 ?_
  refine y_icmp_eq 2000 dL_law_1304 (by decide) (fun hc => ?_) (fun hc => ?_)
  · replace h := kbG_t hc h
    refine y_le [some (.ref 4000), some (.ref 0), some (.ref 57), some (.ref 97), some (.int i), none, none, none] ⟨rfl, ⟨rfl, ⟨rfl, ⟨rfl, ⟨rfl, trivial⟩⟩⟩⟩⟩ ?_
    exact y_widen (by omega) (by omega) (kk _ (kbG_some h))
  · replace h := kbG_f hc h
    exact absurd h kbG_none
def c_law_21 (n : Nat) (u1 : Int32) (μ : kbM) : Option kbM :=
  (f_L_newWord n u1 μ).bind fun x1 =>
  (f_MD_newWord n u1 x1.2).bind fun x2 =>
  (f_MD_thrown x2.2).bind fun x3 =>
  if x3 = x1.1 then
    if x1.1 = 0 then
      if (lg_cmp (x2.2.2 97 0) x2.1.toInt64) = 0 then
        some x2.2
      else
        none
    else
      some x2.2
  else
    none
theorem cR_law_21 {l : Launch} (hl : l.stackTraces = false) (n : Nat) {b L j : Nat} {xs : Nat → Int32} {i : Int32} (hI : kbIdx L j i) {ck cn : Nat} (hck : ck + 4 ≤ 601024) (hcn : cn + 24 ≤ 7293034) (u1 : Int32) (hu1 : xs (j + 1) = u1) (μ : kbM) {P : kbM → Prop} (h : kbG (c_law_21 n u1 μ) P) (kk : ∀ μ' : kbM, P μ' → kbY l ML_law [] room_1 (ck + 4) (cn + 24) (kbFlaw b L xs) 2000 [some (.ref 4000), some (.ref 0), some (.ref 57), some (.ref 97), some (.int i), none, none, none] [] μ') : kbY l ML_law [] room_1 ck cn (kbFlaw b L xs) 1309 [some (.ref 4000), some (.ref 0), some (.ref 57), some (.ref 97), some (.int i), none, none, none] [] μ := by
  unfold c_law_21 at h
  refine y_aload_n dL_law_1309 rfl ?_
  refine y_aload_n dL_law_1310 rfl ?_
  refine y_iload dL_law_1311 rfl ?_
  refine y_iconst 1 dL_law_1313 (by decide) ?_
  refine y_iadd dL_law_1314 ?_
  refine y_sld (j + 1) (hI 1 (by decide)).1 (hI 1 (by decide)).2 dL_law_1315 ?_
  rw [hu1]
  refine y_aload_n dL_law_1316 rfl ?_
  obtain ⟨x1, hx0, h⟩ := kbG_bind h
  refine y_invSW cwL_175 (sp_L_newWord hl n u1 μ hx0) rfl rfl (Nat.le_of_ble_eq_true rfl) (kbRo_law (Nat.le_of_ble_eq_true rfl) (Nat.le_of_ble_eq_true rfl) (by omega) (by omega)) dL_law_1317 ?_
  refine y_istore dL_law_1320 (Nat.le_of_ble_eq_true rfl) rfl ?_
  refine y_aload_n dL_law_1322 rfl ?_
  refine y_aload_n dL_law_1323 rfl ?_
  refine y_iload dL_law_1324 rfl ?_
  refine y_iconst 1 dL_law_1326 (by decide) ?_
  refine y_iadd dL_law_1327 ?_
  refine y_sld (j + 1) (hI 1 (by decide)).1 (hI 1 (by decide)).2 dL_law_1328 ?_
  rw [hu1]
  obtain ⟨x2, hx0, h⟩ := kbG_bind h
  refine y_invV_i cvL_177 sh57 rfl (sp_MD_newWord n u1 x1.2 hx0) rfl rfl (Nat.le_of_ble_eq_true rfl) (kbRo_law (Nat.le_of_ble_eq_true rfl) (Nat.le_of_ble_eq_true rfl) (by omega) (by omega)) dL_law_1329 ?_
  refine y_istore dL_law_1332 (Nat.le_of_ble_eq_true rfl) rfl ?_
  refine y_aload_n dL_law_1334 rfl ?_
  obtain ⟨x3, hx0, h⟩ := kbG_bind h
  refine y_invV_i cvL_106 sh57 rfl (sp_MD_thrown x2.2 hx0) rfl rfl (Nat.le_of_ble_eq_true rfl) (kbRo_law (Nat.le_of_ble_eq_true rfl) (Nat.le_of_ble_eq_true rfl) (by omega) (by omega)) dL_law_1335 ?_
  refine y_iload dL_law_1338 rfl ?_
  refine y_icmp_eq 1345 dL_law_1340 (by decide) (fun hc => ?_) (fun hc => ?_)
  · replace h := kbG_t hc h
    refine y_iload dL_law_1345 rfl ?_
    refine y_if_ne 1362 dL_law_1347 (by decide) (fun hc => ?_) (fun hc => ?_)
    · replace h := kbG_f hc h
      refine y_goto 2000 dL_law_1362 (by decide) ?_
      refine y_le [some (.ref 4000), some (.ref 0), some (.ref 57), some (.ref 97), some (.int i), none, none, none] ⟨rfl, ⟨rfl, ⟨rfl, ⟨rfl, ⟨rfl, trivial⟩⟩⟩⟩⟩ ?_
      exact y_widen (by omega) (by omega) (kk _ (kbG_some h))
    · replace h := kbG_t hc h
      refine y_aload_n dL_law_1350 rfl ?_
      refine y_iconst 0 dL_law_1351 (by decide) ?_
      refine yq_lald 0 (by decide) sh97 (kbIn_of (by decide)) dL_law_1352 ?_
      refine y_iload dL_law_1353 rfl ?_
      refine y_i2l dL_law_1355 ?_
      refine y_lcmp dL_law_1356 ?_
      refine y_if_eq 1362 dL_law_1357 (by decide) (fun hc => ?_) (fun hc => ?_)
      · replace h := kbG_t hc h
        refine y_goto 2000 dL_law_1362 (by decide) ?_
        refine y_le [some (.ref 4000), some (.ref 0), some (.ref 57), some (.ref 97), some (.int i), none, none, none] ⟨rfl, ⟨rfl, ⟨rfl, ⟨rfl, ⟨rfl, trivial⟩⟩⟩⟩⟩ ?_
        exact y_widen (by omega) (by omega) (kk _ (kbG_some h))
      · replace h := kbG_f hc h
        exact absurd h kbG_none
  · replace h := kbG_f hc h
    exact absurd h kbG_none
def c_law_22 (n : Nat) (u1 : Int32) (u2 : Int32) (μ : kbM) : Option kbM :=
  (f_L_span n u1 u2 μ).bind fun x1 =>
  (f_MD_span n u1 u2 x1.2).bind fun x2 =>
  (f_MD_thrown x2.2).bind fun x3 =>
  if x3 = x1.1 then
    if x1.1 = 0 then
      if (lg_cmp (x2.2.2 97 0) x2.1.toInt64) = 0 then
        some x2.2
      else
        none
    else
      some x2.2
  else
    none
theorem cR_law_22 {l : Launch} (hl : l.stackTraces = false) (n : Nat) {b L j : Nat} {xs : Nat → Int32} {i : Int32} (hI : kbIdx L j i) {ck cn : Nat} (hck : ck + 4 ≤ 601024) (hcn : cn + 24 ≤ 7293034) (u1 : Int32) (u2 : Int32) (hu1 : xs (j + 1) = u1) (hu2 : xs (j + 2) = u2) (μ : kbM) {P : kbM → Prop} (h : kbG (c_law_22 n u1 u2 μ) P) (kk : ∀ μ' : kbM, P μ' → kbY l ML_law [] room_1 (ck + 4) (cn + 24) (kbFlaw b L xs) 2000 [some (.ref 4000), some (.ref 0), some (.ref 57), some (.ref 97), some (.int i), none, none, none] [] μ') : kbY l ML_law [] room_1 ck cn (kbFlaw b L xs) 1365 [some (.ref 4000), some (.ref 0), some (.ref 57), some (.ref 97), some (.int i), none, none, none] [] μ := by
  unfold c_law_22 at h
  refine y_aload_n dL_law_1365 rfl ?_
  refine y_aload_n dL_law_1366 rfl ?_
  refine y_iload dL_law_1367 rfl ?_
  refine y_iconst 1 dL_law_1369 (by decide) ?_
  refine y_iadd dL_law_1370 ?_
  refine y_sld (j + 1) (hI 1 (by decide)).1 (hI 1 (by decide)).2 dL_law_1371 ?_
  rw [hu1]
  refine y_aload_n dL_law_1372 rfl ?_
  refine y_iload dL_law_1373 rfl ?_
  refine y_iconst 2 dL_law_1375 (by decide) ?_
  refine y_iadd dL_law_1376 ?_
  refine y_sld (j + 2) (hI 2 (by decide)).1 (hI 2 (by decide)).2 dL_law_1377 ?_
  rw [hu2]
  refine y_aload_n dL_law_1378 rfl ?_
  obtain ⟨x1, hx0, h⟩ := kbG_bind h
  refine y_invSW cwL_178 (sp_L_span hl n u1 u2 μ hx0) rfl rfl (Nat.le_of_ble_eq_true rfl) (kbRo_law (Nat.le_of_ble_eq_true rfl) (Nat.le_of_ble_eq_true rfl) (by omega) (by omega)) dL_law_1379 ?_
  refine y_istore dL_law_1382 (Nat.le_of_ble_eq_true rfl) rfl ?_
  refine y_aload_n dL_law_1384 rfl ?_
  refine y_aload_n dL_law_1385 rfl ?_
  refine y_iload dL_law_1386 rfl ?_
  refine y_iconst 1 dL_law_1388 (by decide) ?_
  refine y_iadd dL_law_1389 ?_
  refine y_sld (j + 1) (hI 1 (by decide)).1 (hI 1 (by decide)).2 dL_law_1390 ?_
  rw [hu1]
  refine y_aload_n dL_law_1391 rfl ?_
  refine y_iload dL_law_1392 rfl ?_
  refine y_iconst 2 dL_law_1394 (by decide) ?_
  refine y_iadd dL_law_1395 ?_
  refine y_sld (j + 2) (hI 2 (by decide)).1 (hI 2 (by decide)).2 dL_law_1396 ?_
  rw [hu2]
  obtain ⟨x2, hx0, h⟩ := kbG_bind h
  refine y_invV_i cvL_180 sh57 rfl (sp_MD_span n u1 u2 x1.2 hx0) rfl rfl (Nat.le_of_ble_eq_true rfl) (kbRo_law (Nat.le_of_ble_eq_true rfl) (Nat.le_of_ble_eq_true rfl) (by omega) (by omega)) dL_law_1397 ?_
  refine y_istore dL_law_1400 (Nat.le_of_ble_eq_true rfl) rfl ?_
  refine y_aload_n dL_law_1402 rfl ?_
  obtain ⟨x3, hx0, h⟩ := kbG_bind h
  refine y_invV_i cvL_106 sh57 rfl (sp_MD_thrown x2.2 hx0) rfl rfl (Nat.le_of_ble_eq_true rfl) (kbRo_law (Nat.le_of_ble_eq_true rfl) (Nat.le_of_ble_eq_true rfl) (by omega) (by omega)) dL_law_1403 ?_
  refine y_iload dL_law_1406 rfl ?_
  refine y_icmp_eq 1413 dL_law_1408 (by decide) (fun hc => ?_) (fun hc => ?_)
  · replace h := kbG_t hc h
    refine y_iload dL_law_1413 rfl ?_
    refine y_if_ne 1430 dL_law_1415 (by decide) (fun hc => ?_) (fun hc => ?_)
    · replace h := kbG_f hc h
      refine y_goto 2000 dL_law_1430 (by decide) ?_
      refine y_le [some (.ref 4000), some (.ref 0), some (.ref 57), some (.ref 97), some (.int i), none, none, none] ⟨rfl, ⟨rfl, ⟨rfl, ⟨rfl, ⟨rfl, trivial⟩⟩⟩⟩⟩ ?_
      exact y_widen (by omega) (by omega) (kk _ (kbG_some h))
    · replace h := kbG_t hc h
      refine y_aload_n dL_law_1418 rfl ?_
      refine y_iconst 0 dL_law_1419 (by decide) ?_
      refine yq_lald 0 (by decide) sh97 (kbIn_of (by decide)) dL_law_1420 ?_
      refine y_iload dL_law_1421 rfl ?_
      refine y_i2l dL_law_1423 ?_
      refine y_lcmp dL_law_1424 ?_
      refine y_if_eq 1430 dL_law_1425 (by decide) (fun hc => ?_) (fun hc => ?_)
      · replace h := kbG_t hc h
        refine y_goto 2000 dL_law_1430 (by decide) ?_
        refine y_le [some (.ref 4000), some (.ref 0), some (.ref 57), some (.ref 97), some (.int i), none, none, none] ⟨rfl, ⟨rfl, ⟨rfl, ⟨rfl, ⟨rfl, trivial⟩⟩⟩⟩⟩ ?_
        exact y_widen (by omega) (by omega) (kk _ (kbG_some h))
      · replace h := kbG_f hc h
        exact absurd h kbG_none
  · replace h := kbG_f hc h
    exact absurd h kbG_none
def c_law_23 (n : Nat) (u1 : Int32) (μ : kbM) : Option kbM :=
  (f_L_closest n u1 μ).bind fun x1 =>
  (f_MD_closest n u1 x1.2).bind fun x2 =>
  (f_MD_thrown x2.2).bind fun x3 =>
  if x3 = x1.1 then
    if x1.1 = 0 then
      if (lg_cmp (x2.2.2 97 0) x2.1.toInt64) = 0 then
        some x2.2
      else
        none
    else
      some x2.2
  else
    none
theorem cR_law_23 {l : Launch} (hl : l.stackTraces = false) (n : Nat) {b L j : Nat} {xs : Nat → Int32} {i : Int32} (hI : kbIdx L j i) {ck cn : Nat} (hck : ck + 4 ≤ 601024) (hcn : cn + 24 ≤ 7293034) (u1 : Int32) (hu1 : xs (j + 1) = u1) (μ : kbM) {P : kbM → Prop} (h : kbG (c_law_23 n u1 μ) P) (kk : ∀ μ' : kbM, P μ' → kbY l ML_law [] room_1 (ck + 4) (cn + 24) (kbFlaw b L xs) 2000 [some (.ref 4000), some (.ref 0), some (.ref 57), some (.ref 97), some (.int i), none, none, none] [] μ') : kbY l ML_law [] room_1 ck cn (kbFlaw b L xs) 1433 [some (.ref 4000), some (.ref 0), some (.ref 57), some (.ref 97), some (.int i), none, none, none] [] μ := by
  unfold c_law_23 at h
  refine y_aload_n dL_law_1433 rfl ?_
  refine y_aload_n dL_law_1434 rfl ?_
  refine y_iload dL_law_1435 rfl ?_
  refine y_iconst 1 dL_law_1437 (by decide) ?_
  refine y_iadd dL_law_1438 ?_
  refine y_sld (j + 1) (hI 1 (by decide)).1 (hI 1 (by decide)).2 dL_law_1439 ?_
  rw [hu1]
  refine y_aload_n dL_law_1440 rfl ?_
  obtain ⟨x1, hx0, h⟩ := kbG_bind h
  refine y_invSW cwL_181 (sp_L_closest hl n u1 μ hx0) rfl rfl (Nat.le_of_ble_eq_true rfl) (kbRo_law (Nat.le_of_ble_eq_true rfl) (Nat.le_of_ble_eq_true rfl) (by omega) (by omega)) dL_law_1441 ?_
  refine y_istore dL_law_1444 (Nat.le_of_ble_eq_true rfl) rfl ?_
  refine y_aload_n dL_law_1446 rfl ?_
  refine y_aload_n dL_law_1447 rfl ?_
  refine y_iload dL_law_1448 rfl ?_
  refine y_iconst 1 dL_law_1450 (by decide) ?_
  refine y_iadd dL_law_1451 ?_
  refine y_sld (j + 1) (hI 1 (by decide)).1 (hI 1 (by decide)).2 dL_law_1452 ?_
  rw [hu1]
  obtain ⟨x2, hx0, h⟩ := kbG_bind h
  refine y_invV_i cvL_183 sh57 rfl (sp_MD_closest n u1 x1.2 hx0) rfl rfl (Nat.le_of_ble_eq_true rfl) (kbRo_law (Nat.le_of_ble_eq_true rfl) (Nat.le_of_ble_eq_true rfl) (by omega) (by omega)) dL_law_1453 ?_
  refine y_istore dL_law_1456 (Nat.le_of_ble_eq_true rfl) rfl ?_
  refine y_aload_n dL_law_1458 rfl ?_
  obtain ⟨x3, hx0, h⟩ := kbG_bind h
  refine y_invV_i cvL_106 sh57 rfl (sp_MD_thrown x2.2 hx0) rfl rfl (Nat.le_of_ble_eq_true rfl) (kbRo_law (Nat.le_of_ble_eq_true rfl) (Nat.le_of_ble_eq_true rfl) (by omega) (by omega)) dL_law_1459 ?_
  refine y_iload dL_law_1462 rfl ?_
  refine y_icmp_eq 1469 dL_law_1464 (by decide) (fun hc => ?_) (fun hc => ?_)
  · replace h := kbG_t hc h
    refine y_iload dL_law_1469 rfl ?_
    refine y_if_ne 1486 dL_law_1471 (by decide) (fun hc => ?_) (fun hc => ?_)
    · replace h := kbG_f hc h
      refine y_goto 2000 dL_law_1486 (by decide) ?_
      refine y_le [some (.ref 4000), some (.ref 0), some (.ref 57), some (.ref 97), some (.int i), none, none, none] ⟨rfl, ⟨rfl, ⟨rfl, ⟨rfl, ⟨rfl, trivial⟩⟩⟩⟩⟩ ?_
      exact y_widen (by omega) (by omega) (kk _ (kbG_some h))
    · replace h := kbG_t hc h
      refine y_aload_n dL_law_1474 rfl ?_
      refine y_iconst 0 dL_law_1475 (by decide) ?_
      refine yq_lald 0 (by decide) sh97 (kbIn_of (by decide)) dL_law_1476 ?_
      refine y_iload dL_law_1477 rfl ?_
      refine y_i2l dL_law_1479 ?_
      refine y_lcmp dL_law_1480 ?_
      refine y_if_eq 1486 dL_law_1481 (by decide) (fun hc => ?_) (fun hc => ?_)
      · replace h := kbG_t hc h
        refine y_goto 2000 dL_law_1486 (by decide) ?_
        refine y_le [some (.ref 4000), some (.ref 0), some (.ref 57), some (.ref 97), some (.int i), none, none, none] ⟨rfl, ⟨rfl, ⟨rfl, ⟨rfl, ⟨rfl, trivial⟩⟩⟩⟩⟩ ?_
        exact y_widen (by omega) (by omega) (kk _ (kbG_some h))
      · replace h := kbG_f hc h
        exact absurd h kbG_none
  · replace h := kbG_f hc h
    exact absurd h kbG_none
def c_law_24 (n : Nat) (u1 : Int32) (μ : kbM) : Option kbM :=
  (f_L_said n u1 μ).bind fun x1 =>
  (f_MD_said n u1 x1.2).bind fun x2 =>
  (f_MD_thrown x2.2).bind fun x3 =>
  if x3 = x1.1 then
    if x1.1 = 0 then
      if (lg_cmp (x2.2.2 97 0) x2.1.toInt64) = 0 then
        some x2.2
      else
        none
    else
      some x2.2
  else
    none
theorem cR_law_24 {l : Launch} (hl : l.stackTraces = false) (n : Nat) {b L j : Nat} {xs : Nat → Int32} {i : Int32} (hI : kbIdx L j i) {ck cn : Nat} (hck : ck + 4 ≤ 601024) (hcn : cn + 24 ≤ 7293034) (u1 : Int32) (hu1 : xs (j + 1) = u1) (μ : kbM) {P : kbM → Prop} (h : kbG (c_law_24 n u1 μ) P) (kk : ∀ μ' : kbM, P μ' → kbY l ML_law [] room_1 (ck + 4) (cn + 24) (kbFlaw b L xs) 2000 [some (.ref 4000), some (.ref 0), some (.ref 57), some (.ref 97), some (.int i), none, none, none] [] μ') : kbY l ML_law [] room_1 ck cn (kbFlaw b L xs) 1489 [some (.ref 4000), some (.ref 0), some (.ref 57), some (.ref 97), some (.int i), none, none, none] [] μ := by
  unfold c_law_24 at h
  refine y_aload_n dL_law_1489 rfl ?_
  refine y_aload_n dL_law_1490 rfl ?_
  refine y_iload dL_law_1491 rfl ?_
  refine y_iconst 1 dL_law_1493 (by decide) ?_
  refine y_iadd dL_law_1494 ?_
  refine y_sld (j + 1) (hI 1 (by decide)).1 (hI 1 (by decide)).2 dL_law_1495 ?_
  rw [hu1]
  refine y_aload_n dL_law_1496 rfl ?_
  obtain ⟨x1, hx0, h⟩ := kbG_bind h
  refine y_invSW cwL_184 (sp_L_said hl n u1 μ hx0) rfl rfl (Nat.le_of_ble_eq_true rfl) (kbRo_law (Nat.le_of_ble_eq_true rfl) (Nat.le_of_ble_eq_true rfl) (by omega) (by omega)) dL_law_1497 ?_
  refine y_istore dL_law_1500 (Nat.le_of_ble_eq_true rfl) rfl ?_
  refine y_aload_n dL_law_1502 rfl ?_
  refine y_aload_n dL_law_1503 rfl ?_
  refine y_iload dL_law_1504 rfl ?_
  refine y_iconst 1 dL_law_1506 (by decide) ?_
  refine y_iadd dL_law_1507 ?_
  refine y_sld (j + 1) (hI 1 (by decide)).1 (hI 1 (by decide)).2 dL_law_1508 ?_
  rw [hu1]
  obtain ⟨x2, hx0, h⟩ := kbG_bind h
  refine y_invV_i cvL_186 sh57 rfl (sp_MD_said n u1 x1.2 hx0) rfl rfl (Nat.le_of_ble_eq_true rfl) (kbRo_law (Nat.le_of_ble_eq_true rfl) (Nat.le_of_ble_eq_true rfl) (by omega) (by omega)) dL_law_1509 ?_
  refine y_istore dL_law_1512 (Nat.le_of_ble_eq_true rfl) rfl ?_
  refine y_aload_n dL_law_1514 rfl ?_
  obtain ⟨x3, hx0, h⟩ := kbG_bind h
  refine y_invV_i cvL_106 sh57 rfl (sp_MD_thrown x2.2 hx0) rfl rfl (Nat.le_of_ble_eq_true rfl) (kbRo_law (Nat.le_of_ble_eq_true rfl) (Nat.le_of_ble_eq_true rfl) (by omega) (by omega)) dL_law_1515 ?_
  refine y_iload dL_law_1518 rfl ?_
  refine y_icmp_eq 1525 dL_law_1520 (by decide) (fun hc => ?_) (fun hc => ?_)
  · replace h := kbG_t hc h
    refine y_iload dL_law_1525 rfl ?_
    refine y_if_ne 1542 dL_law_1527 (by decide) (fun hc => ?_) (fun hc => ?_)
    · replace h := kbG_f hc h
      refine y_goto 2000 dL_law_1542 (by decide) ?_
      refine y_le [some (.ref 4000), some (.ref 0), some (.ref 57), some (.ref 97), some (.int i), none, none, none] ⟨rfl, ⟨rfl, ⟨rfl, ⟨rfl, ⟨rfl, trivial⟩⟩⟩⟩⟩ ?_
      exact y_widen (by omega) (by omega) (kk _ (kbG_some h))
    · replace h := kbG_t hc h
      refine y_aload_n dL_law_1530 rfl ?_
      refine y_iconst 0 dL_law_1531 (by decide) ?_
      refine yq_lald 0 (by decide) sh97 (kbIn_of (by decide)) dL_law_1532 ?_
      refine y_iload dL_law_1533 rfl ?_
      refine y_i2l dL_law_1535 ?_
      refine y_lcmp dL_law_1536 ?_
      refine y_if_eq 1542 dL_law_1537 (by decide) (fun hc => ?_) (fun hc => ?_)
      · replace h := kbG_t hc h
        refine y_goto 2000 dL_law_1542 (by decide) ?_
        refine y_le [some (.ref 4000), some (.ref 0), some (.ref 57), some (.ref 97), some (.int i), none, none, none] ⟨rfl, ⟨rfl, ⟨rfl, ⟨rfl, ⟨rfl, trivial⟩⟩⟩⟩⟩ ?_
        exact y_widen (by omega) (by omega) (kk _ (kbG_some h))
      · replace h := kbG_f hc h
        exact absurd h kbG_none
  · replace h := kbG_f hc h
    exact absurd h kbG_none
def c_law_25 (n : Nat) (u1 : Int32) (μ : kbM) : Option kbM :=
  (f_L_howMany n u1 μ).bind fun x1 =>
  (f_MD_howMany n u1 x1.2).bind fun x2 =>
  (f_MD_thrown x2.2).bind fun x3 =>
  if x3 = x1.1 then
    if x1.1 = 0 then
      if (lg_cmp (x2.2.2 97 0) x2.1) = 0 then
        some x2.2
      else
        none
    else
      some x2.2
  else
    none
theorem cR_law_25 {l : Launch} (hl : l.stackTraces = false) (n : Nat) {b L j : Nat} {xs : Nat → Int32} {i : Int32} (hI : kbIdx L j i) {ck cn : Nat} (hck : ck + 4 ≤ 601024) (hcn : cn + 24 ≤ 7293034) (u1 : Int32) (hu1 : xs (j + 1) = u1) (μ : kbM) {P : kbM → Prop} (h : kbG (c_law_25 n u1 μ) P) (kk : ∀ μ' : kbM, P μ' → kbY l ML_law [] room_1 (ck + 4) (cn + 24) (kbFlaw b L xs) 2000 [some (.ref 4000), some (.ref 0), some (.ref 57), some (.ref 97), some (.int i), none, none, none] [] μ') : kbY l ML_law [] room_1 ck cn (kbFlaw b L xs) 1545 [some (.ref 4000), some (.ref 0), some (.ref 57), some (.ref 97), some (.int i), none, none, none] [] μ := by
  unfold c_law_25 at h
  refine y_aload_n dL_law_1545 rfl ?_
  refine y_aload_n dL_law_1546 rfl ?_
  refine y_iload dL_law_1547 rfl ?_
  refine y_iconst 1 dL_law_1549 (by decide) ?_
  refine y_iadd dL_law_1550 ?_
  refine y_sld (j + 1) (hI 1 (by decide)).1 (hI 1 (by decide)).2 dL_law_1551 ?_
  rw [hu1]
  refine y_aload_n dL_law_1552 rfl ?_
  obtain ⟨x1, hx0, h⟩ := kbG_bind h
  refine y_invSW cwL_187 (sp_L_howMany hl n u1 μ hx0) rfl rfl (Nat.le_of_ble_eq_true rfl) (kbRo_law (Nat.le_of_ble_eq_true rfl) (Nat.le_of_ble_eq_true rfl) (by omega) (by omega)) dL_law_1553 ?_
  refine y_istore dL_law_1556 (Nat.le_of_ble_eq_true rfl) rfl ?_
  refine y_aload_n dL_law_1558 rfl ?_
  refine y_aload_n dL_law_1559 rfl ?_
  refine y_iload dL_law_1560 rfl ?_
  refine y_iconst 1 dL_law_1562 (by decide) ?_
  refine y_iadd dL_law_1563 ?_
  refine y_sld (j + 1) (hI 1 (by decide)).1 (hI 1 (by decide)).2 dL_law_1564 ?_
  rw [hu1]
  obtain ⟨x2, hx0, h⟩ := kbG_bind h
  refine y_invV_l cvL_189 sh57 rfl (sp_MD_howMany n u1 x1.2 hx0) rfl rfl (Nat.le_of_ble_eq_true rfl) (kbRo_law (Nat.le_of_ble_eq_true rfl) (Nat.le_of_ble_eq_true rfl) (by omega) (by omega)) dL_law_1565 ?_
  refine y_lstore dL_law_1568 (Nat.le_of_ble_eq_true rfl) rfl ?_
  refine y_aload_n dL_law_1570 rfl ?_
  obtain ⟨x3, hx0, h⟩ := kbG_bind h
  refine y_invV_i cvL_106 sh57 rfl (sp_MD_thrown x2.2 hx0) rfl rfl (Nat.le_of_ble_eq_true rfl) (kbRo_law (Nat.le_of_ble_eq_true rfl) (Nat.le_of_ble_eq_true rfl) (by omega) (by omega)) dL_law_1571 ?_
  refine y_iload dL_law_1574 rfl ?_
  refine y_icmp_eq 1581 dL_law_1576 (by decide) (fun hc => ?_) (fun hc => ?_)
  · replace h := kbG_t hc h
    refine y_iload dL_law_1581 rfl ?_
    refine y_if_ne 1597 dL_law_1583 (by decide) (fun hc => ?_) (fun hc => ?_)
    · replace h := kbG_f hc h
      refine y_goto 2000 dL_law_1597 (by decide) ?_
      refine y_le [some (.ref 4000), some (.ref 0), some (.ref 57), some (.ref 97), some (.int i), none, none, none] ⟨rfl, ⟨rfl, ⟨rfl, ⟨rfl, ⟨rfl, trivial⟩⟩⟩⟩⟩ ?_
      exact y_widen (by omega) (by omega) (kk _ (kbG_some h))
    · replace h := kbG_t hc h
      refine y_aload_n dL_law_1586 rfl ?_
      refine y_iconst 0 dL_law_1587 (by decide) ?_
      refine yq_lald 0 (by decide) sh97 (kbIn_of (by decide)) dL_law_1588 ?_
      refine y_lload dL_law_1589 rfl ?_
      refine y_lcmp dL_law_1591 ?_
      refine y_if_eq 1597 dL_law_1592 (by decide) (fun hc => ?_) (fun hc => ?_)
      · replace h := kbG_t hc h
        refine y_goto 2000 dL_law_1597 (by decide) ?_
        refine y_le [some (.ref 4000), some (.ref 0), some (.ref 57), some (.ref 97), some (.int i), none, none, none] ⟨rfl, ⟨rfl, ⟨rfl, ⟨rfl, ⟨rfl, trivial⟩⟩⟩⟩⟩ ?_
        exact y_widen (by omega) (by omega) (kk _ (kbG_some h))
      · replace h := kbG_f hc h
        exact absurd h kbG_none
  · replace h := kbG_f hc h
    exact absurd h kbG_none
def c_law_26 (n : Nat) (u1 : Int32) (u2 : Int32) (μ : kbM) : Option kbM :=
  (f_L_hear n u1 u2 μ).bind fun x1 =>
  (f_MD_hear n u1 u2 x1.2).bind fun x2 =>
  (f_MD_thrown x2.2).bind fun x3 =>
  if x3 = x1.1 then
    if x1.1 = 0 then
      if (lg_cmp (x2.2.2 97 0) x2.1.toInt64) = 0 then
        some x2.2
      else
        none
    else
      some x2.2
  else
    none
theorem cR_law_26 {l : Launch} (hl : l.stackTraces = false) (n : Nat) {b L j : Nat} {xs : Nat → Int32} {i : Int32} (hI : kbIdx L j i) {ck cn : Nat} (hck : ck + 4 ≤ 601024) (hcn : cn + 24 ≤ 7293034) (u1 : Int32) (u2 : Int32) (hu1 : xs (j + 1) = u1) (hu2 : xs (j + 2) = u2) (μ : kbM) {P : kbM → Prop} (h : kbG (c_law_26 n u1 u2 μ) P) (kk : ∀ μ' : kbM, P μ' → kbY l ML_law [] room_1 (ck + 4) (cn + 24) (kbFlaw b L xs) 2000 [some (.ref 4000), some (.ref 0), some (.ref 57), some (.ref 97), some (.int i), none, none, none] [] μ') : kbY l ML_law [] room_1 ck cn (kbFlaw b L xs) 1600 [some (.ref 4000), some (.ref 0), some (.ref 57), some (.ref 97), some (.int i), none, none, none] [] μ := by
  unfold c_law_26 at h
  refine y_aload_n dL_law_1600 rfl ?_
  refine y_aload_n dL_law_1601 rfl ?_
  refine y_iload dL_law_1602 rfl ?_
  refine y_iconst 1 dL_law_1604 (by decide) ?_
  refine y_iadd dL_law_1605 ?_
  refine y_sld (j + 1) (hI 1 (by decide)).1 (hI 1 (by decide)).2 dL_law_1606 ?_
  rw [hu1]
  refine y_aload_n dL_law_1607 rfl ?_
  refine y_iload dL_law_1608 rfl ?_
  refine y_iconst 2 dL_law_1610 (by decide) ?_
  refine y_iadd dL_law_1611 ?_
  refine y_sld (j + 2) (hI 2 (by decide)).1 (hI 2 (by decide)).2 dL_law_1612 ?_
  rw [hu2]
  refine y_aload_n dL_law_1613 rfl ?_
  obtain ⟨x1, hx0, h⟩ := kbG_bind h
  refine y_invSW cwL_190 (sp_L_hear hl n u1 u2 μ hx0) rfl rfl (Nat.le_of_ble_eq_true rfl) (kbRo_law (Nat.le_of_ble_eq_true rfl) (Nat.le_of_ble_eq_true rfl) (by omega) (by omega)) dL_law_1614 ?_
  refine y_istore dL_law_1617 (Nat.le_of_ble_eq_true rfl) rfl ?_
  refine y_aload_n dL_law_1619 rfl ?_
  refine y_aload_n dL_law_1620 rfl ?_
  refine y_iload dL_law_1621 rfl ?_
  refine y_iconst 1 dL_law_1623 (by decide) ?_
  refine y_iadd dL_law_1624 ?_
  refine y_sld (j + 1) (hI 1 (by decide)).1 (hI 1 (by decide)).2 dL_law_1625 ?_
  rw [hu1]
  refine y_aload_n dL_law_1626 rfl ?_
  refine y_iload dL_law_1627 rfl ?_
  refine y_iconst 2 dL_law_1629 (by decide) ?_
  refine y_iadd dL_law_1630 ?_
  refine y_sld (j + 2) (hI 2 (by decide)).1 (hI 2 (by decide)).2 dL_law_1631 ?_
  rw [hu2]
  obtain ⟨x2, hx0, h⟩ := kbG_bind h
  refine y_invV_i cvL_192 sh57 rfl (sp_MD_hear n u1 u2 x1.2 hx0) rfl rfl (Nat.le_of_ble_eq_true rfl) (kbRo_law (Nat.le_of_ble_eq_true rfl) (Nat.le_of_ble_eq_true rfl) (by omega) (by omega)) dL_law_1632 ?_
  refine y_istore dL_law_1635 (Nat.le_of_ble_eq_true rfl) rfl ?_
  refine y_aload_n dL_law_1637 rfl ?_
  obtain ⟨x3, hx0, h⟩ := kbG_bind h
  refine y_invV_i cvL_106 sh57 rfl (sp_MD_thrown x2.2 hx0) rfl rfl (Nat.le_of_ble_eq_true rfl) (kbRo_law (Nat.le_of_ble_eq_true rfl) (Nat.le_of_ble_eq_true rfl) (by omega) (by omega)) dL_law_1638 ?_
  refine y_iload dL_law_1641 rfl ?_
  refine y_icmp_eq 1648 dL_law_1643 (by decide) (fun hc => ?_) (fun hc => ?_)
  · replace h := kbG_t hc h
    refine y_iload dL_law_1648 rfl ?_
    refine y_if_ne 1665 dL_law_1650 (by decide) (fun hc => ?_) (fun hc => ?_)
    · replace h := kbG_f hc h
      refine y_goto 2000 dL_law_1665 (by decide) ?_
      refine y_le [some (.ref 4000), some (.ref 0), some (.ref 57), some (.ref 97), some (.int i), none, none, none] ⟨rfl, ⟨rfl, ⟨rfl, ⟨rfl, ⟨rfl, trivial⟩⟩⟩⟩⟩ ?_
      exact y_widen (by omega) (by omega) (kk _ (kbG_some h))
    · replace h := kbG_t hc h
      refine y_aload_n dL_law_1653 rfl ?_
      refine y_iconst 0 dL_law_1654 (by decide) ?_
      refine yq_lald 0 (by decide) sh97 (kbIn_of (by decide)) dL_law_1655 ?_
      refine y_iload dL_law_1656 rfl ?_
      refine y_i2l dL_law_1658 ?_
      refine y_lcmp dL_law_1659 ?_
      refine y_if_eq 1665 dL_law_1660 (by decide) (fun hc => ?_) (fun hc => ?_)
      · replace h := kbG_t hc h
        refine y_goto 2000 dL_law_1665 (by decide) ?_
        refine y_le [some (.ref 4000), some (.ref 0), some (.ref 57), some (.ref 97), some (.int i), none, none, none] ⟨rfl, ⟨rfl, ⟨rfl, ⟨rfl, ⟨rfl, trivial⟩⟩⟩⟩⟩ ?_
        exact y_widen (by omega) (by omega) (kk _ (kbG_some h))
      · replace h := kbG_f hc h
        exact absurd h kbG_none
  · replace h := kbG_f hc h
    exact absurd h kbG_none
def c_law_27 (n : Nat)  (μ : kbM) : Option kbM :=
  (f_KB_which n μ).bind fun x1 =>
  (f_MD_which n μ).bind fun x2 =>
  if x1 = x2.1 then
    some x2.2
  else
    none
theorem cR_law_27 {l : Launch} (hl : l.stackTraces = false) (n : Nat) {b L j : Nat} {xs : Nat → Int32} {i : Int32} (hI : kbIdx L j i) {ck cn : Nat} (hck : ck + 4 ≤ 601024) (hcn : cn + 24 ≤ 7293034)   (μ : kbM) {P : kbM → Prop} (h : kbG (c_law_27 n  μ) P) (kk : ∀ μ' : kbM, P μ' → kbY l ML_law [] room_1 (ck + 4) (cn + 24) (kbFlaw b L xs) 2000 [some (.ref 4000), some (.ref 0), some (.ref 57), some (.ref 97), some (.int i), none, none, none] [] μ') : kbY l ML_law [] room_1 ck cn (kbFlaw b L xs) 1668 [some (.ref 4000), some (.ref 0), some (.ref 57), some (.ref 97), some (.int i), none, none, none] [] μ := by
  unfold c_law_27 at h
  refine y_aload_n dL_law_1668 rfl ?_
  obtain ⟨x1, hx0, h⟩ := kbG_bind h
  refine y_invV_i cvL_193 sh0 rfl (sp_KB_which n μ hx0) rfl rfl (Nat.le_of_ble_eq_true rfl) (kbRo_law (Nat.le_of_ble_eq_true rfl) (Nat.le_of_ble_eq_true rfl) (by omega) (by omega)) dL_law_1669 ?_
  refine y_aload_n dL_law_1672 rfl ?_
  obtain ⟨x2, hx0, h⟩ := kbG_bind h
  refine y_invV_i cvL_196 sh57 rfl (sp_MD_which n μ hx0) rfl rfl (Nat.le_of_ble_eq_true rfl) (kbRo_law (Nat.le_of_ble_eq_true rfl) (Nat.le_of_ble_eq_true rfl) (by omega) (by omega)) dL_law_1673 ?_
  refine y_icmp_eq 2000 dL_law_1676 (by decide) (fun hc => ?_) (fun hc => ?_)
  · replace h := kbG_t hc h
    refine y_le [some (.ref 4000), some (.ref 0), some (.ref 57), some (.ref 97), some (.int i), none, none, none] ⟨rfl, ⟨rfl, ⟨rfl, ⟨rfl, ⟨rfl, trivial⟩⟩⟩⟩⟩ ?_
    exact y_widen (by omega) (by omega) (kk _ (kbG_some h))
  · replace h := kbG_f hc h
    exact absurd h kbG_none
def c_law_28 (n : Nat) (u1 : Int32) (μ : kbM) : Option kbM :=
  (f_L_listen n u1 μ).bind fun x1 =>
  (f_MD_listen n u1 x1.2).bind fun x2 =>
  (f_MD_thrown x2.2).bind fun x3 =>
  if x3 = x1.1 then
    if x1.1 = 0 then
      if (lg_cmp (x2.2.2 97 0) x2.1.toInt64) = 0 then
        some x2.2
      else
        none
    else
      some x2.2
  else
    none
theorem cR_law_28 {l : Launch} (hl : l.stackTraces = false) (n : Nat) {b L j : Nat} {xs : Nat → Int32} {i : Int32} (hI : kbIdx L j i) {ck cn : Nat} (hck : ck + 4 ≤ 601024) (hcn : cn + 24 ≤ 7293034) (u1 : Int32) (hu1 : xs (j + 1) = u1) (μ : kbM) {P : kbM → Prop} (h : kbG (c_law_28 n u1 μ) P) (kk : ∀ μ' : kbM, P μ' → kbY l ML_law [] room_1 (ck + 4) (cn + 24) (kbFlaw b L xs) 2000 [some (.ref 4000), some (.ref 0), some (.ref 57), some (.ref 97), some (.int i), none, none, none] [] μ') : kbY l ML_law [] room_1 ck cn (kbFlaw b L xs) 1681 [some (.ref 4000), some (.ref 0), some (.ref 57), some (.ref 97), some (.int i), none, none, none] [] μ := by
  unfold c_law_28 at h
  refine y_aload_n dL_law_1681 rfl ?_
  refine y_aload_n dL_law_1682 rfl ?_
  refine y_iload dL_law_1683 rfl ?_
  refine y_iconst 1 dL_law_1685 (by decide) ?_
  refine y_iadd dL_law_1686 ?_
  refine y_sld (j + 1) (hI 1 (by decide)).1 (hI 1 (by decide)).2 dL_law_1687 ?_
  rw [hu1]
  refine y_aload_n dL_law_1688 rfl ?_
  obtain ⟨x1, hx0, h⟩ := kbG_bind h
  refine y_invSW cwL_197 (sp_L_listen hl n u1 μ hx0) rfl rfl (Nat.le_of_ble_eq_true rfl) (kbRo_law (Nat.le_of_ble_eq_true rfl) (Nat.le_of_ble_eq_true rfl) (by omega) (by omega)) dL_law_1689 ?_
  refine y_istore dL_law_1692 (Nat.le_of_ble_eq_true rfl) rfl ?_
  refine y_aload_n dL_law_1694 rfl ?_
  refine y_aload_n dL_law_1695 rfl ?_
  refine y_iload dL_law_1696 rfl ?_
  refine y_iconst 1 dL_law_1698 (by decide) ?_
  refine y_iadd dL_law_1699 ?_
  refine y_sld (j + 1) (hI 1 (by decide)).1 (hI 1 (by decide)).2 dL_law_1700 ?_
  rw [hu1]
  obtain ⟨x2, hx0, h⟩ := kbG_bind h
  refine y_invV_i cvL_199 sh57 rfl (sp_MD_listen n u1 x1.2 hx0) rfl rfl (Nat.le_of_ble_eq_true rfl) (kbRo_law (Nat.le_of_ble_eq_true rfl) (Nat.le_of_ble_eq_true rfl) (by omega) (by omega)) dL_law_1701 ?_
  refine y_istore dL_law_1704 (Nat.le_of_ble_eq_true rfl) rfl ?_
  refine y_aload_n dL_law_1706 rfl ?_
  obtain ⟨x3, hx0, h⟩ := kbG_bind h
  refine y_invV_i cvL_106 sh57 rfl (sp_MD_thrown x2.2 hx0) rfl rfl (Nat.le_of_ble_eq_true rfl) (kbRo_law (Nat.le_of_ble_eq_true rfl) (Nat.le_of_ble_eq_true rfl) (by omega) (by omega)) dL_law_1707 ?_
  refine y_iload dL_law_1710 rfl ?_
  refine y_icmp_eq 1717 dL_law_1712 (by decide) (fun hc => ?_) (fun hc => ?_)
  · replace h := kbG_t hc h
    refine y_iload dL_law_1717 rfl ?_
    refine y_if_ne 1734 dL_law_1719 (by decide) (fun hc => ?_) (fun hc => ?_)
    · replace h := kbG_f hc h
      refine y_goto 2000 dL_law_1734 (by decide) ?_
      refine y_le [some (.ref 4000), some (.ref 0), some (.ref 57), some (.ref 97), some (.int i), none, none, none] ⟨rfl, ⟨rfl, ⟨rfl, ⟨rfl, ⟨rfl, trivial⟩⟩⟩⟩⟩ ?_
      exact y_widen (by omega) (by omega) (kk _ (kbG_some h))
    · replace h := kbG_t hc h
      refine y_aload_n dL_law_1722 rfl ?_
      refine y_iconst 0 dL_law_1723 (by decide) ?_
      refine yq_lald 0 (by decide) sh97 (kbIn_of (by decide)) dL_law_1724 ?_
      refine y_iload dL_law_1725 rfl ?_
      refine y_i2l dL_law_1727 ?_
      refine y_lcmp dL_law_1728 ?_
      refine y_if_eq 1734 dL_law_1729 (by decide) (fun hc => ?_) (fun hc => ?_)
      · replace h := kbG_t hc h
        refine y_goto 2000 dL_law_1734 (by decide) ?_
        refine y_le [some (.ref 4000), some (.ref 0), some (.ref 57), some (.ref 97), some (.int i), none, none, none] ⟨rfl, ⟨rfl, ⟨rfl, ⟨rfl, ⟨rfl, trivial⟩⟩⟩⟩⟩ ?_
        exact y_widen (by omega) (by omega) (kk _ (kbG_some h))
      · replace h := kbG_f hc h
        exact absurd h kbG_none
  · replace h := kbG_f hc h
    exact absurd h kbG_none
def c_law_29 (n : Nat)  (μ : kbM) : Option kbM :=
  (f_KB_forget μ).bind fun x1 =>
  (f_MD_forget x1).bind fun x2 =>
  some x2
theorem cR_law_29 {l : Launch} (hl : l.stackTraces = false) (n : Nat) {b L j : Nat} {xs : Nat → Int32} {i : Int32} (hI : kbIdx L j i) {ck cn : Nat} (hck : ck + 4 ≤ 601024) (hcn : cn + 24 ≤ 7293034)   (μ : kbM) {P : kbM → Prop} (h : kbG (c_law_29 n  μ) P) (kk : ∀ μ' : kbM, P μ' → kbY l ML_law [] room_1 (ck + 4) (cn + 24) (kbFlaw b L xs) 2000 [some (.ref 4000), some (.ref 0), some (.ref 57), some (.ref 97), some (.int i), none, none, none] [] μ') : kbY l ML_law [] room_1 ck cn (kbFlaw b L xs) 1737 [some (.ref 4000), some (.ref 0), some (.ref 57), some (.ref 97), some (.int i), none, none, none] [] μ := by
  unfold c_law_29 at h
  refine y_aload_n dL_law_1737 rfl ?_
  obtain ⟨x1, hx0, h⟩ := kbG_bind h
  refine y_invV_v cvL_200 sh0 rfl (sp_KB_forget μ hx0) rfl rfl (Nat.le_of_ble_eq_true rfl) (kbRo_law (Nat.le_of_ble_eq_true rfl) (Nat.le_of_ble_eq_true rfl) (by omega) (by omega)) dL_law_1738 ?_
  refine y_aload_n dL_law_1741 rfl ?_
  obtain ⟨x2, hx0, h⟩ := kbG_bind h
  refine y_invV_v cvL_203 sh57 rfl (sp_MD_forget x1 hx0) rfl rfl (Nat.le_of_ble_eq_true rfl) (kbRo_law (Nat.le_of_ble_eq_true rfl) (Nat.le_of_ble_eq_true rfl) (by omega) (by omega)) dL_law_1742 ?_
  refine y_goto 2000 dL_law_1745 (by decide) ?_
  refine y_le [some (.ref 4000), some (.ref 0), some (.ref 57), some (.ref 97), some (.int i), none, none, none] ⟨rfl, ⟨rfl, ⟨rfl, ⟨rfl, ⟨rfl, trivial⟩⟩⟩⟩⟩ ?_
  exact y_widen (by omega) (by omega) (kk _ (kbG_some h))
def c_law_30 (n : Nat) (u1 : Int32) (u2 : Int32) (μ : kbM) : Option kbM :=
  (f_L_telegraph n u1 u2 μ).bind fun x1 =>
  (f_MD_telegraph n u1 u2 x1.2).bind fun x2 =>
  (f_MD_thrown x2.2).bind fun x3 =>
  if x3 = x1.1 then
    if x1.1 = 0 then
      if (lg_cmp (x2.2.2 97 0) x2.1.toInt64) = 0 then
        some x2.2
      else
        none
    else
      some x2.2
  else
    none
theorem cR_law_30 {l : Launch} (hl : l.stackTraces = false) (n : Nat) {b L j : Nat} {xs : Nat → Int32} {i : Int32} (hI : kbIdx L j i) {ck cn : Nat} (hck : ck + 4 ≤ 601024) (hcn : cn + 24 ≤ 7293034) (u1 : Int32) (u2 : Int32) (hu1 : xs (j + 1) = u1) (hu2 : xs (j + 2) = u2) (μ : kbM) {P : kbM → Prop} (h : kbG (c_law_30 n u1 u2 μ) P) (kk : ∀ μ' : kbM, P μ' → kbY l ML_law [] room_1 (ck + 4) (cn + 24) (kbFlaw b L xs) 2000 [some (.ref 4000), some (.ref 0), some (.ref 57), some (.ref 97), some (.int i), none, none, none] [] μ') : kbY l ML_law [] room_1 ck cn (kbFlaw b L xs) 1748 [some (.ref 4000), some (.ref 0), some (.ref 57), some (.ref 97), some (.int i), none, none, none] [] μ := by
  unfold c_law_30 at h
  refine y_aload_n dL_law_1748 rfl ?_
  refine y_aload_n dL_law_1749 rfl ?_
  refine y_iload dL_law_1750 rfl ?_
  refine y_iconst 1 dL_law_1752 (by decide) ?_
  refine y_iadd dL_law_1753 ?_
  refine y_sld (j + 1) (hI 1 (by decide)).1 (hI 1 (by decide)).2 dL_law_1754 ?_
  rw [hu1]
  refine y_aload_n dL_law_1755 rfl ?_
  refine y_iload dL_law_1756 rfl ?_
  refine y_iconst 2 dL_law_1758 (by decide) ?_
  refine y_iadd dL_law_1759 ?_
  refine y_sld (j + 2) (hI 2 (by decide)).1 (hI 2 (by decide)).2 dL_law_1760 ?_
  rw [hu2]
  refine y_aload_n dL_law_1761 rfl ?_
  obtain ⟨x1, hx0, h⟩ := kbG_bind h
  refine y_invSW cwL_204 (sp_L_telegraph hl n u1 u2 μ hx0) rfl rfl (Nat.le_of_ble_eq_true rfl) (kbRo_law (Nat.le_of_ble_eq_true rfl) (Nat.le_of_ble_eq_true rfl) (by omega) (by omega)) dL_law_1762 ?_
  refine y_istore dL_law_1765 (Nat.le_of_ble_eq_true rfl) rfl ?_
  refine y_aload_n dL_law_1767 rfl ?_
  refine y_aload_n dL_law_1768 rfl ?_
  refine y_iload dL_law_1769 rfl ?_
  refine y_iconst 1 dL_law_1771 (by decide) ?_
  refine y_iadd dL_law_1772 ?_
  refine y_sld (j + 1) (hI 1 (by decide)).1 (hI 1 (by decide)).2 dL_law_1773 ?_
  rw [hu1]
  refine y_aload_n dL_law_1774 rfl ?_
  refine y_iload dL_law_1775 rfl ?_
  refine y_iconst 2 dL_law_1777 (by decide) ?_
  refine y_iadd dL_law_1778 ?_
  refine y_sld (j + 2) (hI 2 (by decide)).1 (hI 2 (by decide)).2 dL_law_1779 ?_
  rw [hu2]
  obtain ⟨x2, hx0, h⟩ := kbG_bind h
  refine y_invV_i cvL_206 sh57 rfl (sp_MD_telegraph n u1 u2 x1.2 hx0) rfl rfl (Nat.le_of_ble_eq_true rfl) (kbRo_law (Nat.le_of_ble_eq_true rfl) (Nat.le_of_ble_eq_true rfl) (by omega) (by omega)) dL_law_1780 ?_
  refine y_istore dL_law_1783 (Nat.le_of_ble_eq_true rfl) rfl ?_
  refine y_aload_n dL_law_1785 rfl ?_
  obtain ⟨x3, hx0, h⟩ := kbG_bind h
  refine y_invV_i cvL_106 sh57 rfl (sp_MD_thrown x2.2 hx0) rfl rfl (Nat.le_of_ble_eq_true rfl) (kbRo_law (Nat.le_of_ble_eq_true rfl) (Nat.le_of_ble_eq_true rfl) (by omega) (by omega)) dL_law_1786 ?_
  refine y_iload dL_law_1789 rfl ?_
  refine y_icmp_eq 1796 dL_law_1791 (by decide) (fun hc => ?_) (fun hc => ?_)
  · replace h := kbG_t hc h
    refine y_iload dL_law_1796 rfl ?_
    refine y_if_ne 1813 dL_law_1798 (by decide) (fun hc => ?_) (fun hc => ?_)
    · replace h := kbG_f hc h
      refine y_goto 2000 dL_law_1813 (by decide) ?_
      refine y_le [some (.ref 4000), some (.ref 0), some (.ref 57), some (.ref 97), some (.int i), none, none, none] ⟨rfl, ⟨rfl, ⟨rfl, ⟨rfl, ⟨rfl, trivial⟩⟩⟩⟩⟩ ?_
      exact y_widen (by omega) (by omega) (kk _ (kbG_some h))
    · replace h := kbG_t hc h
      refine y_aload_n dL_law_1801 rfl ?_
      refine y_iconst 0 dL_law_1802 (by decide) ?_
      refine yq_lald 0 (by decide) sh97 (kbIn_of (by decide)) dL_law_1803 ?_
      refine y_iload dL_law_1804 rfl ?_
      refine y_i2l dL_law_1806 ?_
      refine y_lcmp dL_law_1807 ?_
      refine y_if_eq 1813 dL_law_1808 (by decide) (fun hc => ?_) (fun hc => ?_)
      · replace h := kbG_t hc h
        refine y_goto 2000 dL_law_1813 (by decide) ?_
        refine y_le [some (.ref 4000), some (.ref 0), some (.ref 57), some (.ref 97), some (.int i), none, none, none] ⟨rfl, ⟨rfl, ⟨rfl, ⟨rfl, ⟨rfl, trivial⟩⟩⟩⟩⟩ ?_
        exact y_widen (by omega) (by omega) (kk _ (kbG_some h))
      · replace h := kbG_f hc h
        exact absurd h kbG_none
  · replace h := kbG_f hc h
    exact absurd h kbG_none
def c_law_31 (n : Nat) (u1 : Int32) (u2 : Int32) (u3 : Int32) (μ : kbM) : Option kbM :=
  (f_L_game n u1 u2 u3 μ).bind fun x1 =>
  (f_MD_game n u1 u2 u3 x1.2).bind fun x2 =>
  (f_MD_thrown x2.2).bind fun x3 =>
  if x3 = x1.1 then
    if x1.1 = 0 then
      if (lg_cmp (x2.2.2 97 0) x2.1.toInt64) = 0 then
        some x2.2
      else
        none
    else
      some x2.2
  else
    none
theorem cR_law_31 {l : Launch} (hl : l.stackTraces = false) (n : Nat) {b L j : Nat} {xs : Nat → Int32} {i : Int32} (hI : kbIdx L j i) {ck cn : Nat} (hck : ck + 4 ≤ 601024) (hcn : cn + 24 ≤ 7293034) (u1 : Int32) (u2 : Int32) (u3 : Int32) (hu1 : xs (j + 1) = u1) (hu2 : xs (j + 2) = u2) (hu3 : xs (j + 3) = u3) (μ : kbM) {P : kbM → Prop} (h : kbG (c_law_31 n u1 u2 u3 μ) P) (kk : ∀ μ' : kbM, P μ' → kbY l ML_law [] room_1 (ck + 4) (cn + 24) (kbFlaw b L xs) 2000 [some (.ref 4000), some (.ref 0), some (.ref 57), some (.ref 97), some (.int i), none, none, none] [] μ') : kbY l ML_law [] room_1 ck cn (kbFlaw b L xs) 1816 [some (.ref 4000), some (.ref 0), some (.ref 57), some (.ref 97), some (.int i), none, none, none] [] μ := by
  unfold c_law_31 at h
  refine y_aload_n dL_law_1816 rfl ?_
  refine y_aload_n dL_law_1817 rfl ?_
  refine y_iload dL_law_1818 rfl ?_
  refine y_iconst 1 dL_law_1820 (by decide) ?_
  refine y_iadd dL_law_1821 ?_
  refine y_sld (j + 1) (hI 1 (by decide)).1 (hI 1 (by decide)).2 dL_law_1822 ?_
  rw [hu1]
  refine y_aload_n dL_law_1823 rfl ?_
  refine y_iload dL_law_1824 rfl ?_
  refine y_iconst 2 dL_law_1826 (by decide) ?_
  refine y_iadd dL_law_1827 ?_
  refine y_sld (j + 2) (hI 2 (by decide)).1 (hI 2 (by decide)).2 dL_law_1828 ?_
  rw [hu2]
  refine y_aload_n dL_law_1829 rfl ?_
  refine y_iload dL_law_1830 rfl ?_
  refine y_iconst 3 dL_law_1832 (by decide) ?_
  refine y_iadd dL_law_1833 ?_
  refine y_sld (j + 3) (hI 3 (by decide)).1 (hI 3 (by decide)).2 dL_law_1834 ?_
  rw [hu3]
  refine y_aload_n dL_law_1835 rfl ?_
  obtain ⟨x1, hx0, h⟩ := kbG_bind h
  refine y_invSW cwL_207 (sp_L_game hl n u1 u2 u3 μ hx0) rfl rfl (Nat.le_of_ble_eq_true rfl) (kbRo_law (Nat.le_of_ble_eq_true rfl) (Nat.le_of_ble_eq_true rfl) (by omega) (by omega)) dL_law_1836 ?_
  refine y_istore dL_law_1839 (Nat.le_of_ble_eq_true rfl) rfl ?_
  refine y_aload_n dL_law_1841 rfl ?_
  refine y_aload_n dL_law_1842 rfl ?_
  refine y_iload dL_law_1843 rfl ?_
  refine y_iconst 1 dL_law_1845 (by decide) ?_
  refine y_iadd dL_law_1846 ?_
  refine y_sld (j + 1) (hI 1 (by decide)).1 (hI 1 (by decide)).2 dL_law_1847 ?_
  rw [hu1]
  refine y_aload_n dL_law_1848 rfl ?_
  refine y_iload dL_law_1849 rfl ?_
  refine y_iconst 2 dL_law_1851 (by decide) ?_
  refine y_iadd dL_law_1852 ?_
  refine y_sld (j + 2) (hI 2 (by decide)).1 (hI 2 (by decide)).2 dL_law_1853 ?_
  rw [hu2]
  refine y_aload_n dL_law_1854 rfl ?_
  refine y_iload dL_law_1855 rfl ?_
  refine y_iconst 3 dL_law_1857 (by decide) ?_
  refine y_iadd dL_law_1858 ?_
  refine y_sld (j + 3) (hI 3 (by decide)).1 (hI 3 (by decide)).2 dL_law_1859 ?_
  rw [hu3]
  obtain ⟨x2, hx0, h⟩ := kbG_bind h
  refine y_invV_i cvL_210 sh57 rfl (sp_MD_game n u1 u2 u3 x1.2 hx0) rfl rfl (Nat.le_of_ble_eq_true rfl) (kbRo_law (Nat.le_of_ble_eq_true rfl) (Nat.le_of_ble_eq_true rfl) (by omega) (by omega)) dL_law_1860 ?_
  refine y_istore dL_law_1863 (Nat.le_of_ble_eq_true rfl) rfl ?_
  refine y_aload_n dL_law_1865 rfl ?_
  obtain ⟨x3, hx0, h⟩ := kbG_bind h
  refine y_invV_i cvL_106 sh57 rfl (sp_MD_thrown x2.2 hx0) rfl rfl (Nat.le_of_ble_eq_true rfl) (kbRo_law (Nat.le_of_ble_eq_true rfl) (Nat.le_of_ble_eq_true rfl) (by omega) (by omega)) dL_law_1866 ?_
  refine y_iload dL_law_1869 rfl ?_
  refine y_icmp_eq 1876 dL_law_1871 (by decide) (fun hc => ?_) (fun hc => ?_)
  · replace h := kbG_t hc h
    refine y_iload dL_law_1876 rfl ?_
    refine y_if_ne 1893 dL_law_1878 (by decide) (fun hc => ?_) (fun hc => ?_)
    · replace h := kbG_f hc h
      refine y_goto 2000 dL_law_1893 (by decide) ?_
      refine y_le [some (.ref 4000), some (.ref 0), some (.ref 57), some (.ref 97), some (.int i), none, none, none] ⟨rfl, ⟨rfl, ⟨rfl, ⟨rfl, ⟨rfl, trivial⟩⟩⟩⟩⟩ ?_
      exact y_widen (by omega) (by omega) (kk _ (kbG_some h))
    · replace h := kbG_t hc h
      refine y_aload_n dL_law_1881 rfl ?_
      refine y_iconst 0 dL_law_1882 (by decide) ?_
      refine yq_lald 0 (by decide) sh97 (kbIn_of (by decide)) dL_law_1883 ?_
      refine y_iload dL_law_1884 rfl ?_
      refine y_i2l dL_law_1886 ?_
      refine y_lcmp dL_law_1887 ?_
      refine y_if_eq 1893 dL_law_1888 (by decide) (fun hc => ?_) (fun hc => ?_)
      · replace h := kbG_t hc h
        refine y_goto 2000 dL_law_1893 (by decide) ?_
        refine y_le [some (.ref 4000), some (.ref 0), some (.ref 57), some (.ref 97), some (.int i), none, none, none] ⟨rfl, ⟨rfl, ⟨rfl, ⟨rfl, ⟨rfl, trivial⟩⟩⟩⟩⟩ ?_
        exact y_widen (by omega) (by omega) (kk _ (kbG_some h))
      · replace h := kbG_f hc h
        exact absurd h kbG_none
  · replace h := kbG_f hc h
    exact absurd h kbG_none
def c_law_32 (n : Nat) (u1 : Int32) (u2 : Int32) (u3 : Int32) (μ : kbM) : Option kbM :=
  (f_L_frost n u1 u2 u3 μ).bind fun x1 =>
  (f_MD_frost n u1 u2 u3 x1.2).bind fun x2 =>
  (f_MD_thrown x2.2).bind fun x3 =>
  if x3 = x1.1 then
    if x1.1 = 0 then
      if (lg_cmp (x2.2.2 97 0) x2.1.toInt64) = 0 then
        some x2.2
      else
        none
    else
      some x2.2
  else
    none
theorem cR_law_32 {l : Launch} (hl : l.stackTraces = false) (n : Nat) {b L j : Nat} {xs : Nat → Int32} {i : Int32} (hI : kbIdx L j i) {ck cn : Nat} (hck : ck + 4 ≤ 601024) (hcn : cn + 24 ≤ 7293034) (u1 : Int32) (u2 : Int32) (u3 : Int32) (hu1 : xs (j + 1) = u1) (hu2 : xs (j + 2) = u2) (hu3 : xs (j + 3) = u3) (μ : kbM) {P : kbM → Prop} (h : kbG (c_law_32 n u1 u2 u3 μ) P) (kk : ∀ μ' : kbM, P μ' → kbY l ML_law [] room_1 (ck + 4) (cn + 24) (kbFlaw b L xs) 2000 [some (.ref 4000), some (.ref 0), some (.ref 57), some (.ref 97), some (.int i), none, none, none] [] μ') : kbY l ML_law [] room_1 ck cn (kbFlaw b L xs) 1896 [some (.ref 4000), some (.ref 0), some (.ref 57), some (.ref 97), some (.int i), none, none, none] [] μ := by
  unfold c_law_32 at h
  refine y_aload_n dL_law_1896 rfl ?_
  refine y_aload_n dL_law_1897 rfl ?_
  refine y_iload dL_law_1898 rfl ?_
  refine y_iconst 1 dL_law_1900 (by decide) ?_
  refine y_iadd dL_law_1901 ?_
  refine y_sld (j + 1) (hI 1 (by decide)).1 (hI 1 (by decide)).2 dL_law_1902 ?_
  rw [hu1]
  refine y_aload_n dL_law_1903 rfl ?_
  refine y_iload dL_law_1904 rfl ?_
  refine y_iconst 2 dL_law_1906 (by decide) ?_
  refine y_iadd dL_law_1907 ?_
  refine y_sld (j + 2) (hI 2 (by decide)).1 (hI 2 (by decide)).2 dL_law_1908 ?_
  rw [hu2]
  refine y_aload_n dL_law_1909 rfl ?_
  refine y_iload dL_law_1910 rfl ?_
  refine y_iconst 3 dL_law_1912 (by decide) ?_
  refine y_iadd dL_law_1913 ?_
  refine y_sld (j + 3) (hI 3 (by decide)).1 (hI 3 (by decide)).2 dL_law_1914 ?_
  rw [hu3]
  refine y_aload_n dL_law_1915 rfl ?_
  obtain ⟨x1, hx0, h⟩ := kbG_bind h
  refine y_invSW cwL_211 (sp_L_frost hl n u1 u2 u3 μ hx0) rfl rfl (Nat.le_of_ble_eq_true rfl) (kbRo_law (Nat.le_of_ble_eq_true rfl) (Nat.le_of_ble_eq_true rfl) (by omega) (by omega)) dL_law_1916 ?_
  refine y_istore dL_law_1919 (Nat.le_of_ble_eq_true rfl) rfl ?_
  refine y_aload_n dL_law_1921 rfl ?_
  refine y_aload_n dL_law_1922 rfl ?_
  refine y_iload dL_law_1923 rfl ?_
  refine y_iconst 1 dL_law_1925 (by decide) ?_
  refine y_iadd dL_law_1926 ?_
  refine y_sld (j + 1) (hI 1 (by decide)).1 (hI 1 (by decide)).2 dL_law_1927 ?_
  rw [hu1]
  refine y_aload_n dL_law_1928 rfl ?_
  refine y_iload dL_law_1929 rfl ?_
  refine y_iconst 2 dL_law_1931 (by decide) ?_
  refine y_iadd dL_law_1932 ?_
  refine y_sld (j + 2) (hI 2 (by decide)).1 (hI 2 (by decide)).2 dL_law_1933 ?_
  rw [hu2]
  refine y_aload_n dL_law_1934 rfl ?_
  refine y_iload dL_law_1935 rfl ?_
  refine y_iconst 3 dL_law_1937 (by decide) ?_
  refine y_iadd dL_law_1938 ?_
  refine y_sld (j + 3) (hI 3 (by decide)).1 (hI 3 (by decide)).2 dL_law_1939 ?_
  rw [hu3]
  obtain ⟨x2, hx0, h⟩ := kbG_bind h
  refine y_invV_i cvL_213 sh57 rfl (sp_MD_frost n u1 u2 u3 x1.2 hx0) rfl rfl (Nat.le_of_ble_eq_true rfl) (kbRo_law (Nat.le_of_ble_eq_true rfl) (Nat.le_of_ble_eq_true rfl) (by omega) (by omega)) dL_law_1940 ?_
  refine y_istore dL_law_1943 (Nat.le_of_ble_eq_true rfl) rfl ?_
  refine y_aload_n dL_law_1945 rfl ?_
  obtain ⟨x3, hx0, h⟩ := kbG_bind h
  refine y_invV_i cvL_106 sh57 rfl (sp_MD_thrown x2.2 hx0) rfl rfl (Nat.le_of_ble_eq_true rfl) (kbRo_law (Nat.le_of_ble_eq_true rfl) (Nat.le_of_ble_eq_true rfl) (by omega) (by omega)) dL_law_1946 ?_
  refine y_iload dL_law_1949 rfl ?_
  refine y_icmp_eq 1956 dL_law_1951 (by decide) (fun hc => ?_) (fun hc => ?_)
  · replace h := kbG_t hc h
    refine y_iload dL_law_1956 rfl ?_
    refine y_if_ne 1973 dL_law_1958 (by decide) (fun hc => ?_) (fun hc => ?_)
    · replace h := kbG_f hc h
      refine y_goto 2000 dL_law_1973 (by decide) ?_
      refine y_le [some (.ref 4000), some (.ref 0), some (.ref 57), some (.ref 97), some (.int i), none, none, none] ⟨rfl, ⟨rfl, ⟨rfl, ⟨rfl, ⟨rfl, trivial⟩⟩⟩⟩⟩ ?_
      exact y_widen (by omega) (by omega) (kk _ (kbG_some h))
    · replace h := kbG_t hc h
      refine y_aload_n dL_law_1961 rfl ?_
      refine y_iconst 0 dL_law_1962 (by decide) ?_
      refine yq_lald 0 (by decide) sh97 (kbIn_of (by decide)) dL_law_1963 ?_
      refine y_iload dL_law_1964 rfl ?_
      refine y_i2l dL_law_1966 ?_
      refine y_lcmp dL_law_1967 ?_
      refine y_if_eq 1973 dL_law_1968 (by decide) (fun hc => ?_) (fun hc => ?_)
      · replace h := kbG_t hc h
        refine y_goto 2000 dL_law_1973 (by decide) ?_
        refine y_le [some (.ref 4000), some (.ref 0), some (.ref 57), some (.ref 97), some (.int i), none, none, none] ⟨rfl, ⟨rfl, ⟨rfl, ⟨rfl, ⟨rfl, trivial⟩⟩⟩⟩⟩ ?_
        exact y_widen (by omega) (by omega) (kk _ (kbG_some h))
      · replace h := kbG_f hc h
        exact absurd h kbG_none
  · replace h := kbG_f hc h
    exact absurd h kbG_none
def c_law_33 (n : Nat)  (μ : kbM) : Option kbM :=
  (f_KB_image μ).bind fun x1 =>
  (f_MD_image n x1).bind fun x2 =>
  some x2
theorem cR_law_33 {l : Launch} (hl : l.stackTraces = false) (n : Nat) {b L j : Nat} {xs : Nat → Int32} {i : Int32} (hI : kbIdx L j i) {ck cn : Nat} (hck : ck + 4 ≤ 601024) (hcn : cn + 24 ≤ 7293034)   (μ : kbM) {P : kbM → Prop} (h : kbG (c_law_33 n  μ) P) (kk : ∀ μ' : kbM, P μ' → kbY l ML_law [] room_1 (ck + 4) (cn + 24) (kbFlaw b L xs) 2000 [some (.ref 4000), some (.ref 0), some (.ref 57), some (.ref 97), some (.int i), none, none, none] [] μ') : kbY l ML_law [] room_1 ck cn (kbFlaw b L xs) 1976 [some (.ref 4000), some (.ref 0), some (.ref 57), some (.ref 97), some (.int i), none, none, none] [] μ := by
  unfold c_law_33 at h
  refine y_aload_n dL_law_1976 rfl ?_
  obtain ⟨x1, hx0, h⟩ := kbG_bind h
  refine y_invV_v cvL_214 sh0 rfl (sp_KB_image μ hx0) rfl rfl (Nat.le_of_ble_eq_true rfl) (kbRo_law (Nat.le_of_ble_eq_true rfl) (Nat.le_of_ble_eq_true rfl) (by omega) (by omega)) dL_law_1977 ?_
  refine y_aload_n dL_law_1980 rfl ?_
  obtain ⟨x2, hx0, h⟩ := kbG_bind h
  refine y_invV_v cvL_217 sh57 rfl (sp_MD_image n x1 hx0) rfl rfl (Nat.le_of_ble_eq_true rfl) (kbRo_law (Nat.le_of_ble_eq_true rfl) (Nat.le_of_ble_eq_true rfl) (by omega) (by omega)) dL_law_1981 ?_
  refine y_goto 2000 dL_law_1984 (by decide) ?_
  refine y_le [some (.ref 4000), some (.ref 0), some (.ref 57), some (.ref 97), some (.int i), none, none, none] ⟨rfl, ⟨rfl, ⟨rfl, ⟨rfl, ⟨rfl, trivial⟩⟩⟩⟩⟩ ?_
  exact y_widen (by omega) (by omega) (kk _ (kbG_some h))
def c_law_34 (n : Nat)  (μ : kbM) : Option kbM :=
  (f_KB_restore μ).bind fun x1 =>
  (f_MD_restore n x1.2).bind fun x2 =>
  if x1.1 = x2.1 then
    some x2.2
  else
    none
theorem cR_law_34 {l : Launch} (hl : l.stackTraces = false) (n : Nat) {b L j : Nat} {xs : Nat → Int32} {i : Int32} (hI : kbIdx L j i) {ck cn : Nat} (hck : ck + 4 ≤ 601024) (hcn : cn + 24 ≤ 7293034)   (μ : kbM) {P : kbM → Prop} (h : kbG (c_law_34 n  μ) P) (kk : ∀ μ' : kbM, P μ' → kbY l ML_law [] room_1 (ck + 4) (cn + 24) (kbFlaw b L xs) 2000 [some (.ref 4000), some (.ref 0), some (.ref 57), some (.ref 97), some (.int i), none, none, none] [] μ') : kbY l ML_law [] room_1 ck cn (kbFlaw b L xs) 1987 [some (.ref 4000), some (.ref 0), some (.ref 57), some (.ref 97), some (.int i), none, none, none] [] μ := by
  unfold c_law_34 at h
  refine y_aload_n dL_law_1987 rfl ?_
  obtain ⟨x1, hx0, h⟩ := kbG_bind h
  refine y_invV_i cvL_218 sh0 rfl (sp_KB_restore μ hx0) rfl rfl (Nat.le_of_ble_eq_true rfl) (kbRo_law (Nat.le_of_ble_eq_true rfl) (Nat.le_of_ble_eq_true rfl) (by omega) (by omega)) dL_law_1988 ?_
  refine y_aload_n dL_law_1991 rfl ?_
  obtain ⟨x2, hx0, h⟩ := kbG_bind h
  refine y_invV_i cvL_222 sh57 rfl (sp_MD_restore n x1.2 hx0) rfl rfl (Nat.le_of_ble_eq_true rfl) (kbRo_law (Nat.le_of_ble_eq_true rfl) (Nat.le_of_ble_eq_true rfl) (by omega) (by omega)) dL_law_1992 ?_
  refine y_icmp_eq 2000 dL_law_1995 (by decide) (fun hc => ?_) (fun hc => ?_)
  · replace h := kbG_t hc h
    refine y_le [some (.ref 4000), some (.ref 0), some (.ref 57), some (.ref 97), some (.int i), none, none, none] ⟨rfl, ⟨rfl, ⟨rfl, ⟨rfl, ⟨rfl, trivial⟩⟩⟩⟩⟩ ?_
    exact y_widen (by omega) (by omega) (kk _ (kbG_some h))
  · replace h := kbG_f hc h
    exact absurd h kbG_none
def kbStep (n : Nat) (u0 u1 u2 u3 u4 u5 : Int32) (μ : kbM) : Option kbM :=
  if u0 &&& 63 = 0 then c_law_0 n u1 u2 u3 u4 u5 μ
  else if u0 &&& 63 = 1 then c_law_1 n u1 μ
  else if u0 &&& 63 = 2 then c_law_2 n  μ
  else if u0 &&& 63 = 3 then c_law_3 n u1 μ
  else if u0 &&& 63 = 4 then c_law_4 n u1 u2 μ
  else if u0 &&& 63 = 5 then c_law_5 n u1 u2 μ
  else if u0 &&& 63 = 6 then c_law_6 n u1 u2 μ
  else if u0 &&& 63 = 7 then c_law_7 n u1 u2 μ
  else if u0 &&& 63 = 8 then c_law_8 n u1 u2 μ
  else if u0 &&& 63 = 9 then c_law_9 n u1 u2 μ
  else if u0 &&& 63 = 10 then c_law_10 n u1 u2 μ
  else if u0 &&& 63 = 11 then c_law_11 n u1 u2 u3 μ
  else if u0 &&& 63 = 12 then c_law_12 n u1 μ
  else if u0 &&& 63 = 13 then c_law_13 n u1 u2 μ
  else if u0 &&& 63 = 14 then c_law_14 n u1 u2 μ
  else if u0 &&& 63 = 15 then c_law_15 n u1 u2 μ
  else if u0 &&& 63 = 16 then c_law_16 n  μ
  else if u0 &&& 63 = 17 then c_law_17 n u1 μ
  else if u0 &&& 63 = 18 then c_law_18 n  μ
  else if u0 &&& 63 = 19 then c_law_19 n  μ
  else if u0 &&& 63 = 20 then c_law_20 n  μ
  else if u0 &&& 63 = 21 then c_law_21 n u1 μ
  else if u0 &&& 63 = 22 then c_law_22 n u1 u2 μ
  else if u0 &&& 63 = 23 then c_law_23 n u1 μ
  else if u0 &&& 63 = 24 then c_law_24 n u1 μ
  else if u0 &&& 63 = 25 then c_law_25 n u1 μ
  else if u0 &&& 63 = 26 then c_law_26 n u1 u2 μ
  else if u0 &&& 63 = 27 then c_law_27 n  μ
  else if u0 &&& 63 = 28 then c_law_28 n u1 μ
  else if u0 &&& 63 = 29 then c_law_29 n  μ
  else if u0 &&& 63 = 30 then c_law_30 n u1 u2 μ
  else if u0 &&& 63 = 31 then c_law_31 n u1 u2 u3 μ
  else if u0 &&& 63 = 32 then c_law_32 n u1 u2 u3 μ
  else if u0 &&& 63 = 33 then c_law_33 n  μ
  else if u0 &&& 63 = 34 then c_law_34 n  μ
  else some μ
theorem law_switch {l : Launch} (hl : l.stackTraces = false) (n : Nat) {b L j : Nat} {xs : Nat → Int32} {i : Int32} (hI : kbIdx L j i) {ck cn : Nat} (hck : ck + 4 ≤ 601024) (hcn : cn + 24 ≤ 7293034) (u0 : Int32) (u1 : Int32) (u2 : Int32) (u3 : Int32) (u4 : Int32) (u5 : Int32) (hu1 : xs (j + 1) = u1) (hu2 : xs (j + 2) = u2) (hu3 : xs (j + 3) = u3) (hu4 : xs (j + 4) = u4) (hu5 : xs (j + 5) = u5) (μ : kbM) {P : kbM → Prop} (h : kbG (kbStep n u0 u1 u2 u3 u4 u5 μ) P) (kk : ∀ μ' : kbM, P μ' → kbY l ML_law [] room_1 (ck + 4) (cn + 24) (kbFlaw b L xs) 2000 [some (.ref 4000), some (.ref 0), some (.ref 57), some (.ref 97), some (.int i), none, none, none] [] μ') : kbY l ML_law [] room_1 ck cn (kbFlaw b L xs) 40 [some (.ref 4000), some (.ref 0), some (.ref 57), some (.ref 97), some (.int i), none, none, none] [.int (u0 &&& 63)] μ := by
  unfold kbStep at h
  generalize u0 &&& 63 = o at h ⊢
  by_cases hc0 : o = 0
  · replace h := kbG_t hc0 h
    exact y_tabIn 196 dL_law_40 (by rw [hc0]; decide) (by rw [hc0]; decide) (by rw [hc0]; rfl) (by decide) (cR_law_0 hl n hI hck hcn u1 u2 u3 u4 u5 hu1 hu2 hu3 hu4 hu5 μ h kk)
  replace h := kbG_f hc0 h
  by_cases hc1 : o = 1
  · replace h := kbG_t hc1 h
    exact y_tabIn 269 dL_law_40 (by rw [hc1]; decide) (by rw [hc1]; decide) (by rw [hc1]; rfl) (by decide) (cR_law_1 hl n hI hck hcn u1 hu1 μ h kk)
  replace h := kbG_f hc1 h
  by_cases hc2 : o = 2
  · replace h := kbG_t hc2 h
    exact y_tabIn 325 dL_law_40 (by rw [hc2]; decide) (by rw [hc2]; decide) (by rw [hc2]; rfl) (by decide) (cR_law_2 hl n hI hck hcn   μ h kk)
  replace h := kbG_f hc2 h
  by_cases hc3 : o = 3
  · replace h := kbG_t hc3 h
    exact y_tabIn 338 dL_law_40 (by rw [hc3]; decide) (by rw [hc3]; decide) (by rw [hc3]; rfl) (by decide) (cR_law_3 hl n hI hck hcn u1 hu1 μ h kk)
  replace h := kbG_f hc3 h
  by_cases hc4 : o = 4
  · replace h := kbG_t hc4 h
    exact y_tabIn 394 dL_law_40 (by rw [hc4]; decide) (by rw [hc4]; decide) (by rw [hc4]; rfl) (by decide) (cR_law_4 hl n hI hck hcn u1 u2 hu1 hu2 μ h kk)
  replace h := kbG_f hc4 h
  by_cases hc5 : o = 5
  · replace h := kbG_t hc5 h
    exact y_tabIn 462 dL_law_40 (by rw [hc5]; decide) (by rw [hc5]; decide) (by rw [hc5]; rfl) (by decide) (cR_law_5 hl n hI hck hcn u1 u2 hu1 hu2 μ h kk)
  replace h := kbG_f hc5 h
  by_cases hc6 : o = 6
  · replace h := kbG_t hc6 h
    exact y_tabIn 530 dL_law_40 (by rw [hc6]; decide) (by rw [hc6]; decide) (by rw [hc6]; rfl) (by decide) (cR_law_6 hl n hI hck hcn u1 u2 hu1 hu2 μ h kk)
  replace h := kbG_f hc6 h
  by_cases hc7 : o = 7
  · replace h := kbG_t hc7 h
    exact y_tabIn 598 dL_law_40 (by rw [hc7]; decide) (by rw [hc7]; decide) (by rw [hc7]; rfl) (by decide) (cR_law_7 hl n hI hck hcn u1 u2 hu1 hu2 μ h kk)
  replace h := kbG_f hc7 h
  by_cases hc8 : o = 8
  · replace h := kbG_t hc8 h
    exact y_tabIn 665 dL_law_40 (by rw [hc8]; decide) (by rw [hc8]; decide) (by rw [hc8]; rfl) (by decide) (cR_law_8 hl n hI hck hcn u1 u2 hu1 hu2 μ h kk)
  replace h := kbG_f hc8 h
  by_cases hc9 : o = 9
  · replace h := kbG_t hc9 h
    exact y_tabIn 733 dL_law_40 (by rw [hc9]; decide) (by rw [hc9]; decide) (by rw [hc9]; rfl) (by decide) (cR_law_9 hl n hI hck hcn u1 u2 hu1 hu2 μ h kk)
  replace h := kbG_f hc9 h
  by_cases hc10 : o = 10
  · replace h := kbG_t hc10 h
    exact y_tabIn 801 dL_law_40 (by rw [hc10]; decide) (by rw [hc10]; decide) (by rw [hc10]; rfl) (by decide) (cR_law_10 hl n hI hck hcn u1 u2 hu1 hu2 μ h kk)
  replace h := kbG_f hc10 h
  by_cases hc11 : o = 11
  · replace h := kbG_t hc11 h
    exact y_tabIn 869 dL_law_40 (by rw [hc11]; decide) (by rw [hc11]; decide) (by rw [hc11]; rfl) (by decide) (cR_law_11 hl n hI hck hcn u1 u2 u3 hu1 hu2 hu3 μ h kk)
  replace h := kbG_f hc11 h
  by_cases hc12 : o = 12
  · replace h := kbG_t hc12 h
    exact y_tabIn 918 dL_law_40 (by rw [hc12]; decide) (by rw [hc12]; decide) (by rw [hc12]; rfl) (by decide) (cR_law_12 hl n hI hck hcn u1 hu1 μ h kk)
  replace h := kbG_f hc12 h
  by_cases hc13 : o = 13
  · replace h := kbG_t hc13 h
    exact y_tabIn 974 dL_law_40 (by rw [hc13]; decide) (by rw [hc13]; decide) (by rw [hc13]; rfl) (by decide) (cR_law_13 hl n hI hck hcn u1 u2 hu1 hu2 μ h kk)
  replace h := kbG_f hc13 h
  by_cases hc14 : o = 14
  · replace h := kbG_t hc14 h
    exact y_tabIn 1042 dL_law_40 (by rw [hc14]; decide) (by rw [hc14]; decide) (by rw [hc14]; rfl) (by decide) (cR_law_14 hl n hI hck hcn u1 u2 hu1 hu2 μ h kk)
  replace h := kbG_f hc14 h
  by_cases hc15 : o = 15
  · replace h := kbG_t hc15 h
    exact y_tabIn 1110 dL_law_40 (by rw [hc15]; decide) (by rw [hc15]; decide) (by rw [hc15]; rfl) (by decide) (cR_law_15 hl n hI hck hcn u1 u2 hu1 hu2 μ h kk)
  replace h := kbG_f hc15 h
  by_cases hc16 : o = 16
  · replace h := kbG_t hc16 h
    exact y_tabIn 1201 dL_law_40 (by rw [hc16]; decide) (by rw [hc16]; decide) (by rw [hc16]; rfl) (by decide) (cR_law_16 hl n hI hck hcn   μ h kk)
  replace h := kbG_f hc16 h
  by_cases hc17 : o = 17
  · replace h := kbG_t hc17 h
    exact y_tabIn 1214 dL_law_40 (by rw [hc17]; decide) (by rw [hc17]; decide) (by rw [hc17]; rfl) (by decide) (cR_law_17 hl n hI hck hcn u1 hu1 μ h kk)
  replace h := kbG_f hc17 h
  by_cases hc18 : o = 18
  · replace h := kbG_t hc18 h
    exact y_tabIn 1270 dL_law_40 (by rw [hc18]; decide) (by rw [hc18]; decide) (by rw [hc18]; rfl) (by decide) (cR_law_18 hl n hI hck hcn   μ h kk)
  replace h := kbG_f hc18 h
  by_cases hc19 : o = 19
  · replace h := kbG_t hc19 h
    exact y_tabIn 1283 dL_law_40 (by rw [hc19]; decide) (by rw [hc19]; decide) (by rw [hc19]; rfl) (by decide) (cR_law_19 hl n hI hck hcn   μ h kk)
  replace h := kbG_f hc19 h
  by_cases hc20 : o = 20
  · replace h := kbG_t hc20 h
    exact y_tabIn 1296 dL_law_40 (by rw [hc20]; decide) (by rw [hc20]; decide) (by rw [hc20]; rfl) (by decide) (cR_law_20 hl n hI hck hcn   μ h kk)
  replace h := kbG_f hc20 h
  by_cases hc21 : o = 21
  · replace h := kbG_t hc21 h
    exact y_tabIn 1309 dL_law_40 (by rw [hc21]; decide) (by rw [hc21]; decide) (by rw [hc21]; rfl) (by decide) (cR_law_21 hl n hI hck hcn u1 hu1 μ h kk)
  replace h := kbG_f hc21 h
  by_cases hc22 : o = 22
  · replace h := kbG_t hc22 h
    exact y_tabIn 1365 dL_law_40 (by rw [hc22]; decide) (by rw [hc22]; decide) (by rw [hc22]; rfl) (by decide) (cR_law_22 hl n hI hck hcn u1 u2 hu1 hu2 μ h kk)
  replace h := kbG_f hc22 h
  by_cases hc23 : o = 23
  · replace h := kbG_t hc23 h
    exact y_tabIn 1433 dL_law_40 (by rw [hc23]; decide) (by rw [hc23]; decide) (by rw [hc23]; rfl) (by decide) (cR_law_23 hl n hI hck hcn u1 hu1 μ h kk)
  replace h := kbG_f hc23 h
  by_cases hc24 : o = 24
  · replace h := kbG_t hc24 h
    exact y_tabIn 1489 dL_law_40 (by rw [hc24]; decide) (by rw [hc24]; decide) (by rw [hc24]; rfl) (by decide) (cR_law_24 hl n hI hck hcn u1 hu1 μ h kk)
  replace h := kbG_f hc24 h
  by_cases hc25 : o = 25
  · replace h := kbG_t hc25 h
    exact y_tabIn 1545 dL_law_40 (by rw [hc25]; decide) (by rw [hc25]; decide) (by rw [hc25]; rfl) (by decide) (cR_law_25 hl n hI hck hcn u1 hu1 μ h kk)
  replace h := kbG_f hc25 h
  by_cases hc26 : o = 26
  · replace h := kbG_t hc26 h
    exact y_tabIn 1600 dL_law_40 (by rw [hc26]; decide) (by rw [hc26]; decide) (by rw [hc26]; rfl) (by decide) (cR_law_26 hl n hI hck hcn u1 u2 hu1 hu2 μ h kk)
  replace h := kbG_f hc26 h
  by_cases hc27 : o = 27
  · replace h := kbG_t hc27 h
    exact y_tabIn 1668 dL_law_40 (by rw [hc27]; decide) (by rw [hc27]; decide) (by rw [hc27]; rfl) (by decide) (cR_law_27 hl n hI hck hcn   μ h kk)
  replace h := kbG_f hc27 h
  by_cases hc28 : o = 28
  · replace h := kbG_t hc28 h
    exact y_tabIn 1681 dL_law_40 (by rw [hc28]; decide) (by rw [hc28]; decide) (by rw [hc28]; rfl) (by decide) (cR_law_28 hl n hI hck hcn u1 hu1 μ h kk)
  replace h := kbG_f hc28 h
  by_cases hc29 : o = 29
  · replace h := kbG_t hc29 h
    exact y_tabIn 1737 dL_law_40 (by rw [hc29]; decide) (by rw [hc29]; decide) (by rw [hc29]; rfl) (by decide) (cR_law_29 hl n hI hck hcn   μ h kk)
  replace h := kbG_f hc29 h
  by_cases hc30 : o = 30
  · replace h := kbG_t hc30 h
    exact y_tabIn 1748 dL_law_40 (by rw [hc30]; decide) (by rw [hc30]; decide) (by rw [hc30]; rfl) (by decide) (cR_law_30 hl n hI hck hcn u1 u2 hu1 hu2 μ h kk)
  replace h := kbG_f hc30 h
  by_cases hc31 : o = 31
  · replace h := kbG_t hc31 h
    exact y_tabIn 1816 dL_law_40 (by rw [hc31]; decide) (by rw [hc31]; decide) (by rw [hc31]; rfl) (by decide) (cR_law_31 hl n hI hck hcn u1 u2 u3 hu1 hu2 hu3 μ h kk)
  replace h := kbG_f hc31 h
  by_cases hc32 : o = 32
  · replace h := kbG_t hc32 h
    exact y_tabIn 1896 dL_law_40 (by rw [hc32]; decide) (by rw [hc32]; decide) (by rw [hc32]; rfl) (by decide) (cR_law_32 hl n hI hck hcn u1 u2 u3 hu1 hu2 hu3 μ h kk)
  replace h := kbG_f hc32 h
  by_cases hc33 : o = 33
  · replace h := kbG_t hc33 h
    exact y_tabIn 1976 dL_law_40 (by rw [hc33]; decide) (by rw [hc33]; decide) (by rw [hc33]; rfl) (by decide) (cR_law_33 hl n hI hck hcn   μ h kk)
  replace h := kbG_f hc33 h
  by_cases hc34 : o = 34
  · replace h := kbG_t hc34 h
    exact y_tabIn 1987 dL_law_40 (by rw [hc34]; decide) (by rw [hc34]; decide) (by rw [hc34]; rfl) (by decide) (cR_law_34 hl n hI hck hcn   μ h kk)
  replace h := kbG_f hc34 h
  refine y_tabOut 2000 dL_law_40 (kb_out fun q q1 q2 => by
    have hq : q = 0 ∨ q = 1 ∨ q = 2 ∨ q = 3 ∨ q = 4 ∨ q = 5 ∨ q = 6 ∨ q = 7 ∨ q = 8 ∨ q = 9 ∨ q = 10 ∨ q = 11 ∨ q = 12 ∨ q = 13 ∨ q = 14 ∨ q = 15 ∨ q = 16 ∨ q = 17 ∨ q = 18 ∨ q = 19 ∨ q = 20 ∨ q = 21 ∨ q = 22 ∨ q = 23 ∨ q = 24 ∨ q = 25 ∨ q = 26 ∨ q = 27 ∨ q = 28 ∨ q = 29 ∨ q = 30 ∨ q = 31 ∨ q = 32 ∨ q = 33 ∨ q = 34 := by omega
    rcases hq with rfl | rfl | rfl | rfl | rfl | rfl | rfl | rfl | rfl | rfl | rfl | rfl | rfl | rfl | rfl | rfl | rfl | rfl | rfl | rfl | rfl | rfl | rfl | rfl | rfl | rfl | rfl | rfl | rfl | rfl | rfl | rfl | rfl | rfl | rfl
    · exact hc0
    · exact hc1
    · exact hc2
    · exact hc3
    · exact hc4
    · exact hc5
    · exact hc6
    · exact hc7
    · exact hc8
    · exact hc9
    · exact hc10
    · exact hc11
    · exact hc12
    · exact hc13
    · exact hc14
    · exact hc15
    · exact hc16
    · exact hc17
    · exact hc18
    · exact hc19
    · exact hc20
    · exact hc21
    · exact hc22
    · exact hc23
    · exact hc24
    · exact hc25
    · exact hc26
    · exact hc27
    · exact hc28
    · exact hc29
    · exact hc30
    · exact hc31
    · exact hc32
    · exact hc33
    · exact hc34) (by decide) ?_
  exact y_widen (by omega) (by omega) (kk _ (kbG_some h))
