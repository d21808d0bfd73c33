/-! the law: its calls one by one (printed by wip/gen/law.py) -/
/-- the law, under the name that its method bears -/
abbrev mLn (nm : String) : am_M := (cL_law, ⟨RL, nm, "([I)Z"⟩, 4, some .boolean)
abbrev llo (c : Nat) : List (Option Value) := [some (.ref 0), some (.ref 1), some (.ref 78), some (.int (nI (4 * c)))]
section LW
variable {E : am_E} {B : Nat × Nat} {nm : String} {cs ss : Nat} {σ : FH} {Q : Option Value → FH → Prop}
theorem lw_in {L c : Nat} (hL : L ≤ 256) (h : 4 * c + 4 ≤ L) : vp_in (nI (4 * c)) L ∧ vp_in (nI (4 * c) + 1) L ∧ vp_in (nI (4 * c) + 2) L ∧ vp_in (nI (4 * c) + 3) L := by
  rw [show (1 : Int32) = nI 1 from rfl, show (2 : Int32) = nI 2 from rfl, show (3 : Int32) = nI 3 from rfl, nI_add, nI_add, nI_add]
  exact ⟨vp_in_nI (by omega) (by omega), vp_in_nI (by omega) (by omega), vp_in_nI (by omega) (by omega), vp_in_nI (by omega) (by omega)⟩
set_option maxHeartbeats 1000000 in
theorem lw_c0 {c : Nat} (hc : c < 64) (hB : cs ≤ B.1 ∧ ss ≤ B.2) (hin : vp_in (nI (4 * c)) E.2.2.2.2.1 ∧ vp_in (nI (4 * c) + 1) E.2.2.2.2.1 ∧ vp_in (nI (4 * c) + 2) E.2.2.2.2.1 ∧ vp_in (nI (4 * c) + 3) E.2.2.2.2.1) (h : inv c σ) (kk : ∀ σ', inv (c + 1) σ' → fGB E 9 B (mLn nm) cs ss 841 (llo c) [] σ' Q) : fGB E 9 B (mLn nm) cs ss 160 (llo c) [] σ Q := by
  refine ar_aload_n (i := 1) dL_law_160 rfl rfl ?_
  refine ar_aload_n (i := 0) dL_law_161 rfl rfl ?_
  refine ar_iload_n (i := 3) dL_law_162 rfl rfl ?_
  refine ar_iconst (v := 1) dL_law_163 (by decide) ?_
  refine ar_iadd dL_law_164 ?_
  refine ar_sld dL_law_165 hin.2.1 ?_
  refine fr_callVi (d := 8) (M' := mX6_letter) [_] dL_law_166 ml_L_13 mv_X6_letter rfl rfl o_1 rfl rfl (Nat.le_of_ble_eq_true rfl) hB (op_letter h) (fun a σ1 t => ?_)
  refine ar_aload_n (i := 2) dL_law_169 rfl rfl ?_
  refine ar_aload_n (i := 0) dL_law_170 rfl rfl ?_
  refine ar_iload_n (i := 3) dL_law_171 rfl rfl ?_
  refine ar_iconst (v := 1) dL_law_172 (by decide) ?_
  refine ar_iadd dL_law_173 ?_
  refine ar_sld dL_law_174 hin.2.1 ?_
  refine fr_callVi (d := 8) (M' := mX7_letter) [_] dL_law_175 ml_L_17 mv_X7_letter rfl rfl o_78 rfl rfl (Nat.le_of_ble_eq_true rfl) hB t (fun b σ2 t => ?_)
  exact ar_icmp_eq (tgt := 841) dL_law_178 (by decide) (fun _ => kk σ2 t.2) (fun q => absurd t.1 q)
set_option maxHeartbeats 1000000 in
theorem lw_c1 {c : Nat} (hc : c < 64) (hB : cs ≤ B.1 ∧ ss ≤ B.2) (hin : vp_in (nI (4 * c)) E.2.2.2.2.1 ∧ vp_in (nI (4 * c) + 1) E.2.2.2.2.1 ∧ vp_in (nI (4 * c) + 2) E.2.2.2.2.1 ∧ vp_in (nI (4 * c) + 3) E.2.2.2.2.1) (h : inv c σ) (kk : ∀ σ', inv (c + 1) σ' → fGB E 9 B (mLn nm) cs ss 841 (llo c) [] σ' Q) : fGB E 9 B (mLn nm) cs ss 183 (llo c) [] σ Q := by
  refine ar_aload_n (i := 1) dL_law_183 rfl rfl ?_
  refine fr_callVi (d := 8) (M' := mX6_blank) [] dL_law_184 ml_L_18 mv_X6_blank rfl rfl o_1 rfl rfl (Nat.le_of_ble_eq_true rfl) hB (op_blank h) (fun a σ1 t => ?_)
  refine ar_aload_n (i := 2) dL_law_187 rfl rfl ?_
  refine fr_callVi (d := 8) (M' := mX7_blank) [] dL_law_188 ml_L_22 mv_X7_blank rfl rfl o_78 rfl rfl (Nat.le_of_ble_eq_true rfl) hB t (fun b σ2 t => ?_)
  exact ar_icmp_eq (tgt := 841) dL_law_191 (by decide) (fun _ => kk σ2 t.2) (fun q => absurd t.1 q)
set_option maxHeartbeats 1000000 in
theorem lw_c2 {c : Nat} (hc : c < 64) (hB : cs ≤ B.1 ∧ ss ≤ B.2) (hin : vp_in (nI (4 * c)) E.2.2.2.2.1 ∧ vp_in (nI (4 * c) + 1) E.2.2.2.2.1 ∧ vp_in (nI (4 * c) + 2) E.2.2.2.2.1 ∧ vp_in (nI (4 * c) + 3) E.2.2.2.2.1) (h : inv c σ) (kk : ∀ σ', inv (c + 1) σ' → fGB E 9 B (mLn nm) cs ss 841 (llo c) [] σ' Q) : fGB E 9 B (mLn nm) cs ss 196 (llo c) [] σ Q := by
  refine ar_aload_n (i := 1) dL_law_196 rfl rfl ?_
  refine fr_callVi (d := 8) (M' := mX6_fault) [] dL_law_197 ml_L_23 mv_X6_fault rfl rfl o_1 rfl rfl (Nat.le_of_ble_eq_true rfl) hB (op_fault h) (fun a σ1 t => ?_)
  refine ar_aload_n (i := 2) dL_law_200 rfl rfl ?_
  refine fr_callVi (d := 8) (M' := mX7_fault) [] dL_law_201 ml_L_26 mv_X7_fault rfl rfl o_78 rfl rfl (Nat.le_of_ble_eq_true rfl) hB t (fun b σ2 t => ?_)
  exact ar_icmp_eq (tgt := 841) dL_law_204 (by decide) (fun _ => kk σ2 t.2) (fun q => absurd t.1 q)
set_option maxHeartbeats 1000000 in
theorem lw_c3 {c : Nat} (hc : c < 64) (hB : cs ≤ B.1 ∧ ss ≤ B.2) (hin : vp_in (nI (4 * c)) E.2.2.2.2.1 ∧ vp_in (nI (4 * c) + 1) E.2.2.2.2.1 ∧ vp_in (nI (4 * c) + 2) E.2.2.2.2.1 ∧ vp_in (nI (4 * c) + 3) E.2.2.2.2.1) (h : inv c σ) (kk : ∀ σ', inv (c + 1) σ' → fGB E 9 B (mLn nm) cs ss 841 (llo c) [] σ' Q) : fGB E 9 B (mLn nm) cs ss 209 (llo c) [] σ Q := by
  refine ar_aload_n (i := 1) dL_law_209 rfl rfl ?_
  refine fr_callVi (d := 8) (M' := mX6_roads) [] dL_law_210 ml_L_27 mv_X6_roads rfl rfl o_1 rfl rfl (Nat.le_of_ble_eq_true rfl) hB (op_roads h) (fun a σ1 t => ?_)
  refine ar_aload_n (i := 2) dL_law_213 rfl rfl ?_
  refine fr_callVi (d := 8) (M' := mX7_roads) [] dL_law_214 ml_L_30 mv_X7_roads rfl rfl o_78 rfl rfl (Nat.le_of_ble_eq_true rfl) hB t (fun b σ2 t => ?_)
  exact ar_icmp_eq (tgt := 841) dL_law_217 (by decide) (fun _ => kk σ2 t.2) (fun q => absurd t.1 q)
set_option maxHeartbeats 1000000 in
theorem lw_c4 {c : Nat} (hc : c < 64) (hB : cs ≤ B.1 ∧ ss ≤ B.2) (hin : vp_in (nI (4 * c)) E.2.2.2.2.1 ∧ vp_in (nI (4 * c) + 1) E.2.2.2.2.1 ∧ vp_in (nI (4 * c) + 2) E.2.2.2.2.1 ∧ vp_in (nI (4 * c) + 3) E.2.2.2.2.1) (h : inv c σ) (kk : ∀ σ', inv (c + 1) σ' → fGB E 9 B (mLn nm) cs ss 841 (llo c) [] σ' Q) : fGB E 9 B (mLn nm) cs ss 222 (llo c) [] σ Q := by
  refine ar_aload_n (i := 1) dL_law_222 rfl rfl ?_
  refine ar_aload_n (i := 0) dL_law_223 rfl rfl ?_
  refine ar_iload_n (i := 3) dL_law_224 rfl rfl ?_
  refine ar_iconst (v := 1) dL_law_225 (by decide) ?_
  refine ar_iadd dL_law_226 ?_
  refine ar_sld dL_law_227 hin.2.1 ?_
  refine ar_aload_n (i := 0) dL_law_228 rfl rfl ?_
  refine ar_iload_n (i := 3) dL_law_229 rfl rfl ?_
  refine ar_iconst (v := 2) dL_law_230 (by decide) ?_
  refine ar_iadd dL_law_231 ?_
  refine ar_sld dL_law_232 hin.2.2.1 ?_
  refine fr_callVi (d := 8) (M' := mX6_road) [_, _] dL_law_233 ml_L_31 mv_X6_road rfl rfl o_1 rfl rfl (Nat.le_of_ble_eq_true rfl) hB (op_road h) (fun a σ1 t => ?_)
  refine ar_aload_n (i := 2) dL_law_236 rfl rfl ?_
  refine ar_aload_n (i := 0) dL_law_237 rfl rfl ?_
  refine ar_iload_n (i := 3) dL_law_238 rfl rfl ?_
  refine ar_iconst (v := 1) dL_law_239 (by decide) ?_
  refine ar_iadd dL_law_240 ?_
  refine ar_sld dL_law_241 hin.2.1 ?_
  refine ar_aload_n (i := 0) dL_law_242 rfl rfl ?_
  refine ar_iload_n (i := 3) dL_law_243 rfl rfl ?_
  refine ar_iconst (v := 2) dL_law_244 (by decide) ?_
  refine ar_iadd dL_law_245 ?_
  refine ar_sld dL_law_246 hin.2.2.1 ?_
  refine fr_callVi (d := 8) (M' := mX7_road) [_, _] dL_law_247 ml_L_35 mv_X7_road rfl rfl o_78 rfl rfl (Nat.le_of_ble_eq_true rfl) hB t (fun b σ2 t => ?_)
  exact ar_icmp_eq (tgt := 841) dL_law_250 (by decide) (fun _ => kk σ2 t.2) (fun q => absurd t.1 q)
set_option maxHeartbeats 1000000 in
theorem lw_c5 {c : Nat} (hc : c < 64) (hB : cs ≤ B.1 ∧ ss ≤ B.2) (hin : vp_in (nI (4 * c)) E.2.2.2.2.1 ∧ vp_in (nI (4 * c) + 1) E.2.2.2.2.1 ∧ vp_in (nI (4 * c) + 2) E.2.2.2.2.1 ∧ vp_in (nI (4 * c) + 3) E.2.2.2.2.1) (h : inv c σ) (kk : ∀ σ', inv (c + 1) σ' → fGB E 9 B (mLn nm) cs ss 841 (llo c) [] σ' Q) : fGB E 9 B (mLn nm) cs ss 255 (llo c) [] σ Q := by
  refine ar_aload_n (i := 1) dL_law_255 rfl rfl ?_
  refine ar_aload_n (i := 0) dL_law_256 rfl rfl ?_
  refine ar_iload_n (i := 3) dL_law_257 rfl rfl ?_
  refine ar_iconst (v := 1) dL_law_258 (by decide) ?_
  refine ar_iadd dL_law_259 ?_
  refine ar_sld dL_law_260 hin.2.1 ?_
  refine ar_aload_n (i := 0) dL_law_261 rfl rfl ?_
  refine ar_iload_n (i := 3) dL_law_262 rfl rfl ?_
  refine ar_iconst (v := 2) dL_law_263 (by decide) ?_
  refine ar_iadd dL_law_264 ?_
  refine ar_sld dL_law_265 hin.2.2.1 ?_
  refine fr_callVi (d := 8) (M' := mX6_as) [_, _] dL_law_266 ml_L_36 mv_X6_as rfl rfl o_1 rfl rfl (Nat.le_of_ble_eq_true rfl) hB (op_as h) (fun a σ1 t => ?_)
  refine ar_aload_n (i := 2) dL_law_269 rfl rfl ?_
  refine ar_aload_n (i := 0) dL_law_270 rfl rfl ?_
  refine ar_iload_n (i := 3) dL_law_271 rfl rfl ?_
  refine ar_iconst (v := 1) dL_law_272 (by decide) ?_
  refine ar_iadd dL_law_273 ?_
  refine ar_sld dL_law_274 hin.2.1 ?_
  refine ar_aload_n (i := 0) dL_law_275 rfl rfl ?_
  refine ar_iload_n (i := 3) dL_law_276 rfl rfl ?_
  refine ar_iconst (v := 2) dL_law_277 (by decide) ?_
  refine ar_iadd dL_law_278 ?_
  refine ar_sld dL_law_279 hin.2.2.1 ?_
  refine fr_callVi (d := 8) (M' := mX7_as) [_, _] dL_law_280 ml_L_39 mv_X7_as rfl rfl o_78 rfl rfl (Nat.le_of_ble_eq_true rfl) hB t (fun b σ2 t => ?_)
  exact ar_icmp_eq (tgt := 841) dL_law_283 (by decide) (fun _ => kk σ2 t.2) (fun q => absurd t.1 q)
set_option maxHeartbeats 1000000 in
theorem lw_c6 {c : Nat} (hc : c < 64) (hB : cs ≤ B.1 ∧ ss ≤ B.2) (hin : vp_in (nI (4 * c)) E.2.2.2.2.1 ∧ vp_in (nI (4 * c) + 1) E.2.2.2.2.1 ∧ vp_in (nI (4 * c) + 2) E.2.2.2.2.1 ∧ vp_in (nI (4 * c) + 3) E.2.2.2.2.1) (h : inv c σ) (kk : ∀ σ', inv (c + 1) σ' → fGB E 9 B (mLn nm) cs ss 841 (llo c) [] σ' Q) : fGB E 9 B (mLn nm) cs ss 288 (llo c) [] σ Q := by
  refine ar_aload_n (i := 1) dL_law_288 rfl rfl ?_
  refine ar_aload_n (i := 0) dL_law_289 rfl rfl ?_
  refine ar_iload_n (i := 3) dL_law_290 rfl rfl ?_
  refine ar_iconst (v := 1) dL_law_291 (by decide) ?_
  refine ar_iadd dL_law_292 ?_
  refine ar_sld dL_law_293 hin.2.1 ?_
  refine ar_aload_n (i := 0) dL_law_294 rfl rfl ?_
  refine ar_iload_n (i := 3) dL_law_295 rfl rfl ?_
  refine ar_iconst (v := 2) dL_law_296 (by decide) ?_
  refine ar_iadd dL_law_297 ?_
  refine ar_sld dL_law_298 hin.2.2.1 ?_
  refine fr_callVi (d := 8) (M' := mX6_worsen) [_, _] dL_law_299 ml_L_40 mv_X6_worsen rfl rfl o_1 rfl rfl (Nat.le_of_ble_eq_true rfl) hB (op_worsen h) (fun a σ1 t => ?_)
  refine ar_aload_n (i := 2) dL_law_302 rfl rfl ?_
  refine ar_aload_n (i := 0) dL_law_303 rfl rfl ?_
  refine ar_iload_n (i := 3) dL_law_304 rfl rfl ?_
  refine ar_iconst (v := 1) dL_law_305 (by decide) ?_
  refine ar_iadd dL_law_306 ?_
  refine ar_sld dL_law_307 hin.2.1 ?_
  refine ar_aload_n (i := 0) dL_law_308 rfl rfl ?_
  refine ar_iload_n (i := 3) dL_law_309 rfl rfl ?_
  refine ar_iconst (v := 2) dL_law_310 (by decide) ?_
  refine ar_iadd dL_law_311 ?_
  refine ar_sld dL_law_312 hin.2.2.1 ?_
  refine fr_callVi (d := 8) (M' := mX7_worsen) [_, _] dL_law_313 ml_L_43 mv_X7_worsen rfl rfl o_78 rfl rfl (Nat.le_of_ble_eq_true rfl) hB t (fun b σ2 t => ?_)
  exact ar_icmp_eq (tgt := 841) dL_law_316 (by decide) (fun _ => kk σ2 t.2) (fun q => absurd t.1 q)
set_option maxHeartbeats 1000000 in
theorem lw_c7 {c : Nat} (hc : c < 64) (hB : cs ≤ B.1 ∧ ss ≤ B.2) (hin : vp_in (nI (4 * c)) E.2.2.2.2.1 ∧ vp_in (nI (4 * c) + 1) E.2.2.2.2.1 ∧ vp_in (nI (4 * c) + 2) E.2.2.2.2.1 ∧ vp_in (nI (4 * c) + 3) E.2.2.2.2.1) (h : inv c σ) (kk : ∀ σ', inv (c + 1) σ' → fGB E 9 B (mLn nm) cs ss 841 (llo c) [] σ' Q) : fGB E 9 B (mLn nm) cs ss 321 (llo c) [] σ Q := by
  refine ar_aload_n (i := 1) dL_law_321 rfl rfl ?_
  refine ar_aload_n (i := 0) dL_law_322 rfl rfl ?_
  refine ar_iload_n (i := 3) dL_law_323 rfl rfl ?_
  refine ar_iconst (v := 1) dL_law_324 (by decide) ?_
  refine ar_iadd dL_law_325 ?_
  refine ar_sld dL_law_326 hin.2.1 ?_
  refine ar_aload_n (i := 0) dL_law_327 rfl rfl ?_
  refine ar_iload_n (i := 3) dL_law_328 rfl rfl ?_
  refine ar_iconst (v := 2) dL_law_329 (by decide) ?_
  refine ar_iadd dL_law_330 ?_
  refine ar_sld dL_law_331 hin.2.2.1 ?_
  refine ar_if_eq (tgt := 339) dL_law_332 (by decide) (fun hb => ?_) (fun hb => ?_)
  · skip
    refine ar_iconst (v := 0) dL_law_339 (by decide) ?_
    refine fr_callVi (d := 8) (M' := mX6_licence) [_, _] dL_law_340 ml_L_44 mv_X6_licence rfl rfl o_1 rfl rfl (Nat.le_of_ble_eq_true rfl) hB (op_licence (Or.inl rfl) h) (fun a σ1 t => ?_)
    refine ar_aload_n (i := 2) dL_law_343 rfl rfl ?_
    refine ar_aload_n (i := 0) dL_law_344 rfl rfl ?_
    refine ar_iload_n (i := 3) dL_law_345 rfl rfl ?_
    refine ar_iconst (v := 1) dL_law_346 (by decide) ?_
    refine ar_iadd dL_law_347 ?_
    refine ar_sld dL_law_348 hin.2.1 ?_
    refine ar_aload_n (i := 0) dL_law_349 rfl rfl ?_
    refine ar_iload_n (i := 3) dL_law_350 rfl rfl ?_
    refine ar_iconst (v := 2) dL_law_351 (by decide) ?_
    refine ar_iadd dL_law_352 ?_
    refine ar_sld dL_law_353 hin.2.2.1 ?_
    refine ar_if_eq (tgt := 361) dL_law_354 (by decide) (fun _ => ?_) (fun q => absurd hb q)
    refine ar_iconst (v := 0) dL_law_361 (by decide) ?_
    refine fr_callVi (d := 8) (M' := mX7_licence) [_, _] dL_law_362 ml_L_48 mv_X7_licence rfl rfl o_78 rfl rfl (Nat.le_of_ble_eq_true rfl) hB t (fun b σ2 t => ?_)
    exact ar_icmp_eq (tgt := 841) dL_law_365 (by decide) (fun _ => kk σ2 t.2) (fun q => absurd t.1 q)
  · skip
    refine ar_iconst (v := 1) dL_law_335 (by decide) ?_
    refine ar_goto (tgt := 340) dL_law_336 (by decide) ?_
    refine fr_callVi (d := 8) (M' := mX6_licence) [_, _] dL_law_340 ml_L_44 mv_X6_licence rfl rfl o_1 rfl rfl (Nat.le_of_ble_eq_true rfl) hB (op_licence (Or.inr rfl) h) (fun a σ1 t => ?_)
    refine ar_aload_n (i := 2) dL_law_343 rfl rfl ?_
    refine ar_aload_n (i := 0) dL_law_344 rfl rfl ?_
    refine ar_iload_n (i := 3) dL_law_345 rfl rfl ?_
    refine ar_iconst (v := 1) dL_law_346 (by decide) ?_
    refine ar_iadd dL_law_347 ?_
    refine ar_sld dL_law_348 hin.2.1 ?_
    refine ar_aload_n (i := 0) dL_law_349 rfl rfl ?_
    refine ar_iload_n (i := 3) dL_law_350 rfl rfl ?_
    refine ar_iconst (v := 2) dL_law_351 (by decide) ?_
    refine ar_iadd dL_law_352 ?_
    refine ar_sld dL_law_353 hin.2.2.1 ?_
    refine ar_if_eq (tgt := 361) dL_law_354 (by decide) (fun q => absurd q hb) (fun _ => ?_)
    refine ar_iconst (v := 1) dL_law_357 (by decide) ?_
    refine ar_goto (tgt := 362) dL_law_358 (by decide) ?_
    refine fr_callVi (d := 8) (M' := mX7_licence) [_, _] dL_law_362 ml_L_48 mv_X7_licence rfl rfl o_78 rfl rfl (Nat.le_of_ble_eq_true rfl) hB t (fun b σ2 t => ?_)
    exact ar_icmp_eq (tgt := 841) dL_law_365 (by decide) (fun _ => kk σ2 t.2) (fun q => absurd t.1 q)
set_option maxHeartbeats 1000000 in
theorem lw_c8 {c : Nat} (hc : c < 64) (hB : cs ≤ B.1 ∧ ss ≤ B.2) (hin : vp_in (nI (4 * c)) E.2.2.2.2.1 ∧ vp_in (nI (4 * c) + 1) E.2.2.2.2.1 ∧ vp_in (nI (4 * c) + 2) E.2.2.2.2.1 ∧ vp_in (nI (4 * c) + 3) E.2.2.2.2.1) (h : inv c σ) (kk : ∀ σ', inv (c + 1) σ' → fGB E 9 B (mLn nm) cs ss 841 (llo c) [] σ' Q) : fGB E 9 B (mLn nm) cs ss 370 (llo c) [] σ Q := by
  refine ar_aload_n (i := 1) dL_law_370 rfl rfl ?_
  refine fr_callVi (d := 8) (M' := mX6_pilgrim) [] dL_law_371 ml_L_49 mv_X6_pilgrim rfl rfl o_1 rfl rfl (Nat.le_of_ble_eq_true rfl) hB (op_pilgrim h) (fun a σ1 t => ?_)
  refine ar_aload_n (i := 2) dL_law_374 rfl rfl ?_
  refine fr_callVi (d := 8) (M' := mX7_pilgrim) [] dL_law_375 ml_L_52 mv_X7_pilgrim rfl rfl o_78 rfl rfl (Nat.le_of_ble_eq_true rfl) hB t (fun b σ2 t => ?_)
  exact ar_icmp_eq (tgt := 841) dL_law_378 (by decide) (fun _ => kk σ2 t.2) (fun q => absurd t.1 q)
set_option maxHeartbeats 1000000 in
theorem lw_c9 {c : Nat} (hc : c < 64) (hB : cs ≤ B.1 ∧ ss ≤ B.2) (hin : vp_in (nI (4 * c)) E.2.2.2.2.1 ∧ vp_in (nI (4 * c) + 1) E.2.2.2.2.1 ∧ vp_in (nI (4 * c) + 2) E.2.2.2.2.1 ∧ vp_in (nI (4 * c) + 3) E.2.2.2.2.1) (h : inv c σ) (kk : ∀ σ', inv (c + 1) σ' → fGB E 9 B (mLn nm) cs ss 841 (llo c) [] σ' Q) : fGB E 9 B (mLn nm) cs ss 383 (llo c) [] σ Q := by
  refine ar_aload_n (i := 1) dL_law_383 rfl rfl ?_
  refine ar_aload_n (i := 0) dL_law_384 rfl rfl ?_
  refine ar_iload_n (i := 3) dL_law_385 rfl rfl ?_
  refine ar_iconst (v := 1) dL_law_386 (by decide) ?_
  refine ar_iadd dL_law_387 ?_
  refine ar_sld dL_law_388 hin.2.1 ?_
  refine ar_aload_n (i := 0) dL_law_389 rfl rfl ?_
  refine ar_iload_n (i := 3) dL_law_390 rfl rfl ?_
  refine ar_iconst (v := 2) dL_law_391 (by decide) ?_
  refine ar_iadd dL_law_392 ?_
  refine ar_sld dL_law_393 hin.2.2.1 ?_
  refine fr_callVi (d := 8) (M' := mX6_about) [_, _] dL_law_394 ml_L_53 mv_X6_about rfl rfl o_1 rfl rfl (Nat.le_of_ble_eq_true rfl) hB (op_about h) (fun a σ1 t => ?_)
  refine ar_aload_n (i := 2) dL_law_397 rfl rfl ?_
  refine ar_aload_n (i := 0) dL_law_398 rfl rfl ?_
  refine ar_iload_n (i := 3) dL_law_399 rfl rfl ?_
  refine ar_iconst (v := 1) dL_law_400 (by decide) ?_
  refine ar_iadd dL_law_401 ?_
  refine ar_sld dL_law_402 hin.2.1 ?_
  refine ar_aload_n (i := 0) dL_law_403 rfl rfl ?_
  refine ar_iload_n (i := 3) dL_law_404 rfl rfl ?_
  refine ar_iconst (v := 2) dL_law_405 (by decide) ?_
  refine ar_iadd dL_law_406 ?_
  refine ar_sld dL_law_407 hin.2.2.1 ?_
  refine fr_callVi (d := 8) (M' := mX7_about) [_, _] dL_law_408 ml_L_56 mv_X7_about rfl rfl o_78 rfl rfl (Nat.le_of_ble_eq_true rfl) hB t (fun b σ2 t => ?_)
  exact ar_icmp_eq (tgt := 841) dL_law_411 (by decide) (fun _ => kk σ2 t.2) (fun q => absurd t.1 q)
set_option maxHeartbeats 1000000 in
theorem lw_c10 {c : Nat} (hc : c < 64) (hB : cs ≤ B.1 ∧ ss ≤ B.2) (hin : vp_in (nI (4 * c)) E.2.2.2.2.1 ∧ vp_in (nI (4 * c) + 1) E.2.2.2.2.1 ∧ vp_in (nI (4 * c) + 2) E.2.2.2.2.1 ∧ vp_in (nI (4 * c) + 3) E.2.2.2.2.1) (h : inv c σ) (kk : ∀ σ', inv (c + 1) σ' → fGB E 9 B (mLn nm) cs ss 841 (llo c) [] σ' Q) : fGB E 9 B (mLn nm) cs ss 416 (llo c) [] σ Q := by
  refine ar_aload_n (i := 1) dL_law_416 rfl rfl ?_
  refine ar_aload_n (i := 0) dL_law_417 rfl rfl ?_
  refine ar_iload_n (i := 3) dL_law_418 rfl rfl ?_
  refine ar_iconst (v := 1) dL_law_419 (by decide) ?_
  refine ar_iadd dL_law_420 ?_
  refine ar_sld dL_law_421 hin.2.1 ?_
  refine ar_aload_n (i := 0) dL_law_422 rfl rfl ?_
  refine ar_iload_n (i := 3) dL_law_423 rfl rfl ?_
  refine ar_iconst (v := 2) dL_law_424 (by decide) ?_
  refine ar_iadd dL_law_425 ?_
  refine ar_sld dL_law_426 hin.2.2.1 ?_
  refine fr_callVi (d := 8) (M' := mX6_walk) [_, _] dL_law_427 ml_L_57 mv_X6_walk rfl rfl o_1 rfl rfl (Nat.le_of_ble_eq_true rfl) hB (op_walk (by omega) h) (fun a σ1 t => ?_)
  refine ar_aload_n (i := 2) dL_law_430 rfl rfl ?_
  refine ar_aload_n (i := 0) dL_law_431 rfl rfl ?_
  refine ar_iload_n (i := 3) dL_law_432 rfl rfl ?_
  refine ar_iconst (v := 1) dL_law_433 (by decide) ?_
  refine ar_iadd dL_law_434 ?_
  refine ar_sld dL_law_435 hin.2.1 ?_
  refine ar_aload_n (i := 0) dL_law_436 rfl rfl ?_
  refine ar_iload_n (i := 3) dL_law_437 rfl rfl ?_
  refine ar_iconst (v := 2) dL_law_438 (by decide) ?_
  refine ar_iadd dL_law_439 ?_
  refine ar_sld dL_law_440 hin.2.2.1 ?_
  refine fr_callVi (d := 8) (M' := mX7_walk) [_, _] dL_law_441 ml_L_60 mv_X7_walk rfl rfl o_78 rfl rfl (Nat.le_of_ble_eq_true rfl) hB t (fun b σ2 t => ?_)
  exact ar_icmp_eq (tgt := 841) dL_law_444 (by decide) (fun _ => kk σ2 t.2) (fun q => absurd t.1 q)
set_option maxHeartbeats 1000000 in
theorem lw_c11 {c : Nat} (hc : c < 64) (hB : cs ≤ B.1 ∧ ss ≤ B.2) (hin : vp_in (nI (4 * c)) E.2.2.2.2.1 ∧ vp_in (nI (4 * c) + 1) E.2.2.2.2.1 ∧ vp_in (nI (4 * c) + 2) E.2.2.2.2.1 ∧ vp_in (nI (4 * c) + 3) E.2.2.2.2.1) (h : inv c σ) (kk : ∀ σ', inv (c + 1) σ' → fGB E 9 B (mLn nm) cs ss 841 (llo c) [] σ' Q) : fGB E 9 B (mLn nm) cs ss 449 (llo c) [] σ Q := by
  refine ar_aload_n (i := 1) dL_law_449 rfl rfl ?_
  refine ar_aload_n (i := 0) dL_law_450 rfl rfl ?_
  refine ar_iload_n (i := 3) dL_law_451 rfl rfl ?_
  refine ar_iconst (v := 1) dL_law_452 (by decide) ?_
  refine ar_iadd dL_law_453 ?_
  refine ar_sld dL_law_454 hin.2.1 ?_
  refine ar_aload_n (i := 0) dL_law_455 rfl rfl ?_
  refine ar_iload_n (i := 3) dL_law_456 rfl rfl ?_
  refine ar_iconst (v := 2) dL_law_457 (by decide) ?_
  refine ar_iadd dL_law_458 ?_
  refine ar_sld dL_law_459 hin.2.2.1 ?_
  refine ar_aload_n (i := 0) dL_law_460 rfl rfl ?_
  refine ar_iload_n (i := 3) dL_law_461 rfl rfl ?_
  refine ar_iconst (v := 3) dL_law_462 (by decide) ?_
  refine ar_iadd dL_law_463 ?_
  refine ar_sld dL_law_464 hin.2.2.2 ?_
  refine fr_callVi (d := 8) (M' := mX6_together) [_, _, _] dL_law_465 ml_L_61 mv_X6_together rfl rfl o_1 rfl rfl (Nat.le_of_ble_eq_true rfl) hB (op_together (by omega) h) (fun a σ1 t => ?_)
  refine ar_aload_n (i := 2) dL_law_468 rfl rfl ?_
  refine ar_aload_n (i := 0) dL_law_469 rfl rfl ?_
  refine ar_iload_n (i := 3) dL_law_470 rfl rfl ?_
  refine ar_iconst (v := 1) dL_law_471 (by decide) ?_
  refine ar_iadd dL_law_472 ?_
  refine ar_sld dL_law_473 hin.2.1 ?_
  refine ar_aload_n (i := 0) dL_law_474 rfl rfl ?_
  refine ar_iload_n (i := 3) dL_law_475 rfl rfl ?_
  refine ar_iconst (v := 2) dL_law_476 (by decide) ?_
  refine ar_iadd dL_law_477 ?_
  refine ar_sld dL_law_478 hin.2.2.1 ?_
  refine ar_aload_n (i := 0) dL_law_479 rfl rfl ?_
  refine ar_iload_n (i := 3) dL_law_480 rfl rfl ?_
  refine ar_iconst (v := 3) dL_law_481 (by decide) ?_
  refine ar_iadd dL_law_482 ?_
  refine ar_sld dL_law_483 hin.2.2.2 ?_
  refine fr_callVi (d := 8) (M' := mX7_together) [_, _, _] dL_law_484 ml_L_65 mv_X7_together rfl rfl o_78 rfl rfl (Nat.le_of_ble_eq_true rfl) hB t (fun b σ2 t => ?_)
  exact ar_icmp_eq (tgt := 841) dL_law_487 (by decide) (fun _ => kk σ2 t.2) (fun q => absurd t.1 q)
set_option maxHeartbeats 1000000 in
theorem lw_c12 {c : Nat} (hc : c < 64) (hB : cs ≤ B.1 ∧ ss ≤ B.2) (hin : vp_in (nI (4 * c)) E.2.2.2.2.1 ∧ vp_in (nI (4 * c) + 1) E.2.2.2.2.1 ∧ vp_in (nI (4 * c) + 2) E.2.2.2.2.1 ∧ vp_in (nI (4 * c) + 3) E.2.2.2.2.1) (h : inv c σ) (kk : ∀ σ', inv (c + 1) σ' → fGB E 9 B (mLn nm) cs ss 841 (llo c) [] σ' Q) : fGB E 9 B (mLn nm) cs ss 492 (llo c) [] σ Q := by
  refine ar_aload_n (i := 1) dL_law_492 rfl rfl ?_
  refine ar_aload_n (i := 0) dL_law_493 rfl rfl ?_
  refine ar_iload_n (i := 3) dL_law_494 rfl rfl ?_
  refine ar_iconst (v := 1) dL_law_495 (by decide) ?_
  refine ar_iadd dL_law_496 ?_
  refine ar_sld dL_law_497 hin.2.1 ?_
  refine fr_callVi (d := 8) (M' := mX6_rest) [_] dL_law_498 ml_L_66 mv_X6_rest rfl rfl o_1 rfl rfl (Nat.le_of_ble_eq_true rfl) hB (op_rest h) (fun a σ1 t => ?_)
  refine ar_aload_n (i := 2) dL_law_501 rfl rfl ?_
  refine ar_aload_n (i := 0) dL_law_502 rfl rfl ?_
  refine ar_iload_n (i := 3) dL_law_503 rfl rfl ?_
  refine ar_iconst (v := 1) dL_law_504 (by decide) ?_
  refine ar_iadd dL_law_505 ?_
  refine ar_sld dL_law_506 hin.2.1 ?_
  refine fr_callVi (d := 8) (M' := mX7_rest) [_] dL_law_507 ml_L_69 mv_X7_rest rfl rfl o_78 rfl rfl (Nat.le_of_ble_eq_true rfl) hB t (fun b σ2 t => ?_)
  exact ar_icmp_eq (tgt := 841) dL_law_510 (by decide) (fun _ => kk σ2 t.2) (fun q => absurd t.1 q)
set_option maxHeartbeats 1000000 in
theorem lw_c13 {c : Nat} (hc : c < 64) (hB : cs ≤ B.1 ∧ ss ≤ B.2) (hin : vp_in (nI (4 * c)) E.2.2.2.2.1 ∧ vp_in (nI (4 * c) + 1) E.2.2.2.2.1 ∧ vp_in (nI (4 * c) + 2) E.2.2.2.2.1 ∧ vp_in (nI (4 * c) + 3) E.2.2.2.2.1) (h : inv c σ) (kk : ∀ σ', inv (c + 1) σ' → fGB E 9 B (mLn nm) cs ss 841 (llo c) [] σ' Q) : fGB E 9 B (mLn nm) cs ss 515 (llo c) [] σ Q := by
  refine ar_aload_n (i := 1) dL_law_515 rfl rfl ?_
  refine ar_aload_n (i := 0) dL_law_516 rfl rfl ?_
  refine ar_iload_n (i := 3) dL_law_517 rfl rfl ?_
  refine ar_iconst (v := 1) dL_law_518 (by decide) ?_
  refine ar_iadd dL_law_519 ?_
  refine ar_sld dL_law_520 hin.2.1 ?_
  refine fr_callVi (d := 8) (M' := mX6_enter) [_] dL_law_521 ml_L_70 mv_X6_enter rfl rfl o_1 rfl rfl (Nat.le_of_ble_eq_true rfl) hB (op_enter h) (fun a σ1 t => ?_)
  refine ar_aload_n (i := 2) dL_law_524 rfl rfl ?_
  refine ar_aload_n (i := 0) dL_law_525 rfl rfl ?_
  refine ar_iload_n (i := 3) dL_law_526 rfl rfl ?_
  refine ar_iconst (v := 1) dL_law_527 (by decide) ?_
  refine ar_iadd dL_law_528 ?_
  refine ar_sld dL_law_529 hin.2.1 ?_
  refine fr_callVi (d := 8) (M' := mX7_enter) [_] dL_law_530 ml_L_73 mv_X7_enter rfl rfl o_78 rfl rfl (Nat.le_of_ble_eq_true rfl) hB t (fun b σ2 t => ?_)
  exact ar_icmp_eq (tgt := 841) dL_law_533 (by decide) (fun _ => kk σ2 t.2) (fun q => absurd t.1 q)
set_option maxHeartbeats 1000000 in
theorem lw_c14 {c : Nat} (hc : c < 64) (hB : cs ≤ B.1 ∧ ss ≤ B.2) (hin : vp_in (nI (4 * c)) E.2.2.2.2.1 ∧ vp_in (nI (4 * c) + 1) E.2.2.2.2.1 ∧ vp_in (nI (4 * c) + 2) E.2.2.2.2.1 ∧ vp_in (nI (4 * c) + 3) E.2.2.2.2.1) (h : inv c σ) (kk : ∀ σ', inv (c + 1) σ' → fGB E 9 B (mLn nm) cs ss 841 (llo c) [] σ' Q) : fGB E 9 B (mLn nm) cs ss 538 (llo c) [] σ Q := by
  refine ar_aload_n (i := 1) dL_law_538 rfl rfl ?_
  refine ar_aload_n (i := 0) dL_law_539 rfl rfl ?_
  refine ar_iload_n (i := 3) dL_law_540 rfl rfl ?_
  refine ar_iconst (v := 1) dL_law_541 (by decide) ?_
  refine ar_iadd dL_law_542 ?_
  refine ar_sld dL_law_543 hin.2.1 ?_
  refine ar_aload_n (i := 0) dL_law_544 rfl rfl ?_
  refine ar_iload_n (i := 3) dL_law_545 rfl rfl ?_
  refine ar_iconst (v := 2) dL_law_546 (by decide) ?_
  refine ar_iadd dL_law_547 ?_
  refine ar_sld dL_law_548 hin.2.2.1 ?_
  refine fr_callVi (d := 8) (M' := mX6_way) [_, _] dL_law_549 ml_L_74 mv_X6_way rfl rfl o_1 rfl rfl (Nat.le_of_ble_eq_true rfl) hB (op_way (by omega) h) (fun a σ1 t => ?_)
  refine ar_aload_n (i := 2) dL_law_552 rfl rfl ?_
  refine ar_aload_n (i := 0) dL_law_553 rfl rfl ?_
  refine ar_iload_n (i := 3) dL_law_554 rfl rfl ?_
  refine ar_iconst (v := 1) dL_law_555 (by decide) ?_
  refine ar_iadd dL_law_556 ?_
  refine ar_sld dL_law_557 hin.2.1 ?_
  refine ar_aload_n (i := 0) dL_law_558 rfl rfl ?_
  refine ar_iload_n (i := 3) dL_law_559 rfl rfl ?_
  refine ar_iconst (v := 2) dL_law_560 (by decide) ?_
  refine ar_iadd dL_law_561 ?_
  refine ar_sld dL_law_562 hin.2.2.1 ?_
  refine fr_callVi (d := 8) (M' := mX7_way) [_, _] dL_law_563 ml_L_77 mv_X7_way rfl rfl o_78 rfl rfl (Nat.le_of_ble_eq_true rfl) hB t (fun b σ2 t => ?_)
  exact ar_icmp_eq (tgt := 841) dL_law_566 (by decide) (fun _ => kk σ2 t.2) (fun q => absurd t.1 q)
set_option maxHeartbeats 1000000 in
theorem lw_c15 {c : Nat} (hc : c < 64) (hB : cs ≤ B.1 ∧ ss ≤ B.2) (hin : vp_in (nI (4 * c)) E.2.2.2.2.1 ∧ vp_in (nI (4 * c) + 1) E.2.2.2.2.1 ∧ vp_in (nI (4 * c) + 2) E.2.2.2.2.1 ∧ vp_in (nI (4 * c) + 3) E.2.2.2.2.1) (h : inv c σ) (kk : ∀ σ', inv (c + 1) σ' → fGB E 9 B (mLn nm) cs ss 841 (llo c) [] σ' Q) : fGB E 9 B (mLn nm) cs ss 571 (llo c) [] σ Q := by
  refine ar_aload_n (i := 1) dL_law_571 rfl rfl ?_
  refine ar_aload_n (i := 0) dL_law_572 rfl rfl ?_
  refine ar_iload_n (i := 3) dL_law_573 rfl rfl ?_
  refine ar_iconst (v := 1) dL_law_574 (by decide) ?_
  refine ar_iadd dL_law_575 ?_
  refine ar_sld dL_law_576 hin.2.1 ?_
  refine fr_callVi (d := 8) (M' := mX6_bars) [_] dL_law_577 ml_L_78 mv_X6_bars rfl rfl o_1 rfl rfl (Nat.le_of_ble_eq_true rfl) hB (op_bars (by omega) h) (fun a σ1 t => ?_)
  refine ar_aload_n (i := 2) dL_law_580 rfl rfl ?_
  refine ar_aload_n (i := 0) dL_law_581 rfl rfl ?_
  refine ar_iload_n (i := 3) dL_law_582 rfl rfl ?_
  refine ar_iconst (v := 1) dL_law_583 (by decide) ?_
  refine ar_iadd dL_law_584 ?_
  refine ar_sld dL_law_585 hin.2.1 ?_
  refine fr_callVi (d := 8) (M' := mX7_bars) [_] dL_law_586 ml_L_81 mv_X7_bars rfl rfl o_78 rfl rfl (Nat.le_of_ble_eq_true rfl) hB t (fun b σ2 t => ?_)
  exact ar_icmp_eq (tgt := 841) dL_law_589 (by decide) (fun _ => kk σ2 t.2) (fun q => absurd t.1 q)
set_option maxHeartbeats 1000000 in
theorem lw_c16 {c : Nat} (hc : c < 64) (hB : cs ≤ B.1 ∧ ss ≤ B.2) (hin : vp_in (nI (4 * c)) E.2.2.2.2.1 ∧ vp_in (nI (4 * c) + 1) E.2.2.2.2.1 ∧ vp_in (nI (4 * c) + 2) E.2.2.2.2.1 ∧ vp_in (nI (4 * c) + 3) E.2.2.2.2.1) (h : inv c σ) (kk : ∀ σ', inv (c + 1) σ' → fGB E 9 B (mLn nm) cs ss 841 (llo c) [] σ' Q) : fGB E 9 B (mLn nm) cs ss 594 (llo c) [] σ Q := by
  refine ar_aload_n (i := 1) dL_law_594 rfl rfl ?_
  refine ar_aload_n (i := 0) dL_law_595 rfl rfl ?_
  refine ar_iload_n (i := 3) dL_law_596 rfl rfl ?_
  refine ar_iconst (v := 1) dL_law_597 (by decide) ?_
  refine ar_iadd dL_law_598 ?_
  refine ar_sld dL_law_599 hin.2.1 ?_
  refine ar_aload_n (i := 0) dL_law_600 rfl rfl ?_
  refine ar_iload_n (i := 3) dL_law_601 rfl rfl ?_
  refine ar_iconst (v := 2) dL_law_602 (by decide) ?_
  refine ar_iadd dL_law_603 ?_
  refine ar_sld dL_law_604 hin.2.2.1 ?_
  refine fr_callVi (d := 8) (M' := mX6_most) [_, _] dL_law_605 ml_L_82 mv_X6_most rfl rfl o_1 rfl rfl (Nat.le_of_ble_eq_true rfl) hB (op_most (by omega) h) (fun a σ1 t => ?_)
  refine ar_aload_n (i := 2) dL_law_608 rfl rfl ?_
  refine ar_aload_n (i := 0) dL_law_609 rfl rfl ?_
  refine ar_iload_n (i := 3) dL_law_610 rfl rfl ?_
  refine ar_iconst (v := 1) dL_law_611 (by decide) ?_
  refine ar_iadd dL_law_612 ?_
  refine ar_sld dL_law_613 hin.2.1 ?_
  refine ar_aload_n (i := 0) dL_law_614 rfl rfl ?_
  refine ar_iload_n (i := 3) dL_law_615 rfl rfl ?_
  refine ar_iconst (v := 2) dL_law_616 (by decide) ?_
  refine ar_iadd dL_law_617 ?_
  refine ar_sld dL_law_618 hin.2.2.1 ?_
  refine fr_callVi (d := 8) (M' := mX7_most) [_, _] dL_law_619 ml_L_85 mv_X7_most rfl rfl o_78 rfl rfl (Nat.le_of_ble_eq_true rfl) hB t (fun b σ2 t => ?_)
  exact ar_icmp_eq (tgt := 841) dL_law_622 (by decide) (fun _ => kk σ2 t.2) (fun q => absurd t.1 q)
set_option maxHeartbeats 1000000 in
theorem lw_c17 {c : Nat} (hc : c < 64) (hB : cs ≤ B.1 ∧ ss ≤ B.2) (hin : vp_in (nI (4 * c)) E.2.2.2.2.1 ∧ vp_in (nI (4 * c) + 1) E.2.2.2.2.1 ∧ vp_in (nI (4 * c) + 2) E.2.2.2.2.1 ∧ vp_in (nI (4 * c) + 3) E.2.2.2.2.1) (h : inv c σ) (kk : ∀ σ', inv (c + 1) σ' → fGB E 9 B (mLn nm) cs ss 841 (llo c) [] σ' Q) : fGB E 9 B (mLn nm) cs ss 627 (llo c) [] σ Q := by
  refine ar_aload_n (i := 1) dL_law_627 rfl rfl ?_
  refine ar_aload_n (i := 0) dL_law_628 rfl rfl ?_
  refine ar_iload_n (i := 3) dL_law_629 rfl rfl ?_
  refine ar_iconst (v := 1) dL_law_630 (by decide) ?_
  refine ar_iadd dL_law_631 ?_
  refine ar_sld dL_law_632 hin.2.1 ?_
  refine fr_callVi (d := 8) (M' := mX6_bridge) [_] dL_law_633 ml_L_86 mv_X6_bridge rfl rfl o_1 rfl rfl (Nat.le_of_ble_eq_true rfl) hB (op_bridge (by omega) h) (fun a σ1 t => ?_)
  refine ar_aload_n (i := 2) dL_law_636 rfl rfl ?_
  refine ar_aload_n (i := 0) dL_law_637 rfl rfl ?_
  refine ar_iload_n (i := 3) dL_law_638 rfl rfl ?_
  refine ar_iconst (v := 1) dL_law_639 (by decide) ?_
  refine ar_iadd dL_law_640 ?_
  refine ar_sld dL_law_641 hin.2.1 ?_
  refine fr_callVi (d := 8) (M' := mX7_bridge) [_] dL_law_642 ml_L_89 mv_X7_bridge rfl rfl o_78 rfl rfl (Nat.le_of_ble_eq_true rfl) hB t (fun b σ2 t => ?_)
  exact ar_icmp_eq (tgt := 841) dL_law_645 (by decide) (fun _ => kk σ2 t.2) (fun q => absurd t.1 q)
set_option maxHeartbeats 1000000 in
theorem lw_c18 {c : Nat} (hc : c < 64) (hB : cs ≤ B.1 ∧ ss ≤ B.2) (hin : vp_in (nI (4 * c)) E.2.2.2.2.1 ∧ vp_in (nI (4 * c) + 1) E.2.2.2.2.1 ∧ vp_in (nI (4 * c) + 2) E.2.2.2.2.1 ∧ vp_in (nI (4 * c) + 3) E.2.2.2.2.1) (h : inv c σ) (kk : ∀ σ', inv (c + 1) σ' → fGB E 9 B (mLn nm) cs ss 841 (llo c) [] σ' Q) : fGB E 9 B (mLn nm) cs ss 650 (llo c) [] σ Q := by
  refine ar_aload_n (i := 1) dL_law_650 rfl rfl ?_
  refine ar_aload_n (i := 0) dL_law_651 rfl rfl ?_
  refine ar_iload_n (i := 3) dL_law_652 rfl rfl ?_
  refine ar_iconst (v := 1) dL_law_653 (by decide) ?_
  refine ar_iadd dL_law_654 ?_
  refine ar_sld dL_law_655 hin.2.1 ?_
  refine fr_callVi (d := 8) (M' := mX6_log) [_] dL_law_656 ml_L_90 mv_X6_log rfl rfl o_1 rfl rfl (Nat.le_of_ble_eq_true rfl) hB (op_log h) (fun a σ1 t => ?_)
  refine ar_aload_n (i := 2) dL_law_659 rfl rfl ?_
  refine ar_aload_n (i := 0) dL_law_660 rfl rfl ?_
  refine ar_iload_n (i := 3) dL_law_661 rfl rfl ?_
  refine ar_iconst (v := 1) dL_law_662 (by decide) ?_
  refine ar_iadd dL_law_663 ?_
  refine ar_sld dL_law_664 hin.2.1 ?_
  refine fr_callVi (d := 8) (M' := mX7_log) [_] dL_law_665 ml_L_93 mv_X7_log rfl rfl o_78 rfl rfl (Nat.le_of_ble_eq_true rfl) hB t (fun b σ2 t => ?_)
  exact ar_icmp_eq (tgt := 841) dL_law_668 (by decide) (fun _ => kk σ2 t.2) (fun q => absurd t.1 q)
set_option maxHeartbeats 1000000 in
theorem lw_c19 {c : Nat} (hc : c < 64) (hB : cs ≤ B.1 ∧ ss ≤ B.2) (hin : vp_in (nI (4 * c)) E.2.2.2.2.1 ∧ vp_in (nI (4 * c) + 1) E.2.2.2.2.1 ∧ vp_in (nI (4 * c) + 2) E.2.2.2.2.1 ∧ vp_in (nI (4 * c) + 3) E.2.2.2.2.1) (h : inv c σ) (kk : ∀ σ', inv (c + 1) σ' → fGB E 9 B (mLn nm) cs ss 841 (llo c) [] σ' Q) : fGB E 9 B (mLn nm) cs ss 673 (llo c) [] σ Q := by
  refine ar_aload_n (i := 1) dL_law_673 rfl rfl ?_
  refine fr_callVi (d := 8) (M' := mX6_forget) [] dL_law_674 ml_L_94 mv_X6_forget rfl rfl o_1 rfl rfl (Nat.le_of_ble_eq_true rfl) hB (op_forget h) (fun a σ1 t => ?_)
  refine ar_aload_n (i := 2) dL_law_677 rfl rfl ?_
  refine fr_callVi (d := 8) (M' := mX7_forget) [] dL_law_678 ml_L_97 mv_X7_forget rfl rfl o_78 rfl rfl (Nat.le_of_ble_eq_true rfl) hB t (fun b σ2 t => ?_)
  exact ar_icmp_eq (tgt := 841) dL_law_681 (by decide) (fun _ => kk σ2 t.2) (fun q => absurd t.1 q)
set_option maxHeartbeats 1000000 in
theorem lw_c20 {c : Nat} (hc : c < 64) (hB : cs ≤ B.1 ∧ ss ≤ B.2) (hin : vp_in (nI (4 * c)) E.2.2.2.2.1 ∧ vp_in (nI (4 * c) + 1) E.2.2.2.2.1 ∧ vp_in (nI (4 * c) + 2) E.2.2.2.2.1 ∧ vp_in (nI (4 * c) + 3) E.2.2.2.2.1) (h : inv c σ) (kk : ∀ σ', inv (c + 1) σ' → fGB E 9 B (mLn nm) cs ss 841 (llo c) [] σ' Q) : fGB E 9 B (mLn nm) cs ss 686 (llo c) [] σ Q := by
  refine ar_aload_n (i := 1) dL_law_686 rfl rfl ?_
  refine fr_callVi (d := 8) (M' := mX6_walks) [] dL_law_687 ml_L_98 mv_X6_walks rfl rfl o_1 rfl rfl (Nat.le_of_ble_eq_true rfl) hB (op_walks h) (fun a σ1 t => ?_)
  refine ar_aload_n (i := 2) dL_law_690 rfl rfl ?_
  refine fr_callVi (d := 8) (M' := mX7_walks) [] dL_law_691 ml_L_101 mv_X7_walks rfl rfl o_78 rfl rfl (Nat.le_of_ble_eq_true rfl) hB t (fun b σ2 t => ?_)
  exact ar_icmp_eq (tgt := 841) dL_law_694 (by decide) (fun _ => kk σ2 t.2) (fun q => absurd t.1 q)
set_option maxHeartbeats 1000000 in
theorem lw_c21 {c : Nat} (hc : c < 64) (hB : cs ≤ B.1 ∧ ss ≤ B.2) (hin : vp_in (nI (4 * c)) E.2.2.2.2.1 ∧ vp_in (nI (4 * c) + 1) E.2.2.2.2.1 ∧ vp_in (nI (4 * c) + 2) E.2.2.2.2.1 ∧ vp_in (nI (4 * c) + 3) E.2.2.2.2.1) (h : inv c σ) (kk : ∀ σ', inv (c + 1) σ' → fGB E 9 B (mLn nm) cs ss 841 (llo c) [] σ' Q) : fGB E 9 B (mLn nm) cs ss 699 (llo c) [] σ Q := by
  refine ar_aload_n (i := 1) dL_law_699 rfl rfl ?_
  refine ar_aload_n (i := 0) dL_law_700 rfl rfl ?_
  refine ar_iload_n (i := 3) dL_law_701 rfl rfl ?_
  refine ar_iconst (v := 1) dL_law_702 (by decide) ?_
  refine ar_iadd dL_law_703 ?_
  refine ar_sld dL_law_704 hin.2.1 ?_
  refine fr_callVi (d := 8) (M' := mX6_walksBy) [_] dL_law_705 ml_L_102 mv_X6_walksBy rfl rfl o_1 rfl rfl (Nat.le_of_ble_eq_true rfl) hB (op_walksBy h) (fun a σ1 t => ?_)
  refine ar_aload_n (i := 2) dL_law_708 rfl rfl ?_
  refine ar_aload_n (i := 0) dL_law_709 rfl rfl ?_
  refine ar_iload_n (i := 3) dL_law_710 rfl rfl ?_
  refine ar_iconst (v := 1) dL_law_711 (by decide) ?_
  refine ar_iadd dL_law_712 ?_
  refine ar_sld dL_law_713 hin.2.1 ?_
  refine fr_callVi (d := 8) (M' := mX7_walksBy) [_] dL_law_714 ml_L_105 mv_X7_walksBy rfl rfl o_78 rfl rfl (Nat.le_of_ble_eq_true rfl) hB t (fun b σ2 t => ?_)
  exact ar_icmp_eq (tgt := 841) dL_law_717 (by decide) (fun _ => kk σ2 t.2) (fun q => absurd t.1 q)
set_option maxHeartbeats 1000000 in
theorem lw_c22 {c : Nat} (hc : c < 64) (hB : cs ≤ B.1 ∧ ss ≤ B.2) (hin : vp_in (nI (4 * c)) E.2.2.2.2.1 ∧ vp_in (nI (4 * c) + 1) E.2.2.2.2.1 ∧ vp_in (nI (4 * c) + 2) E.2.2.2.2.1 ∧ vp_in (nI (4 * c) + 3) E.2.2.2.2.1) (h : inv c σ) (kk : ∀ σ', inv (c + 1) σ' → fGB E 9 B (mLn nm) cs ss 841 (llo c) [] σ' Q) : fGB E 9 B (mLn nm) cs ss 722 (llo c) [] σ Q := by
  refine ar_aload_n (i := 1) dL_law_722 rfl rfl ?_
  refine fr_callVi (d := 8) (M' := mX6_last) [] dL_law_723 ml_L_106 mv_X6_last rfl rfl o_1 rfl rfl (Nat.le_of_ble_eq_true rfl) hB (op_last h) (fun a σ1 t => ?_)
  refine ar_aload_n (i := 2) dL_law_726 rfl rfl ?_
  refine fr_callVi (d := 8) (M' := mX7_last) [] dL_law_727 ml_L_109 mv_X7_last rfl rfl o_78 rfl rfl (Nat.le_of_ble_eq_true rfl) hB t (fun b σ2 t => ?_)
  exact ar_icmp_eq (tgt := 841) dL_law_730 (by decide) (fun _ => kk σ2 t.2) (fun q => absurd t.1 q)
set_option maxHeartbeats 1000000 in
theorem lw_c23 {c : Nat} (hc : c < 64) (hB : cs ≤ B.1 ∧ ss ≤ B.2) (hin : vp_in (nI (4 * c)) E.2.2.2.2.1 ∧ vp_in (nI (4 * c) + 1) E.2.2.2.2.1 ∧ vp_in (nI (4 * c) + 2) E.2.2.2.2.1 ∧ vp_in (nI (4 * c) + 3) E.2.2.2.2.1) (h : inv c σ) (kk : ∀ σ', inv (c + 1) σ' → fGB E 9 B (mLn nm) cs ss 841 (llo c) [] σ' Q) : fGB E 9 B (mLn nm) cs ss 735 (llo c) [] σ Q := by
  refine ar_aload_n (i := 1) dL_law_735 rfl rfl ?_
  refine ar_aload_n (i := 0) dL_law_736 rfl rfl ?_
  refine ar_iload_n (i := 3) dL_law_737 rfl rfl ?_
  refine ar_iconst (v := 1) dL_law_738 (by decide) ?_
  refine ar_iadd dL_law_739 ?_
  refine ar_sld dL_law_740 hin.2.1 ?_
  refine ar_aload_n (i := 0) dL_law_741 rfl rfl ?_
  refine ar_iload_n (i := 3) dL_law_742 rfl rfl ?_
  refine ar_iconst (v := 2) dL_law_743 (by decide) ?_
  refine ar_iadd dL_law_744 ?_
  refine ar_sld dL_law_745 hin.2.2.1 ?_
  refine ar_aload_n (i := 0) dL_law_746 rfl rfl ?_
  refine ar_iload_n (i := 3) dL_law_747 rfl rfl ?_
  refine ar_iconst (v := 3) dL_law_748 (by decide) ?_
  refine ar_iadd dL_law_749 ?_
  refine ar_sld dL_law_750 hin.2.2.2 ?_
  refine fr_callVi (d := 8) (M' := mX6_months) [_, _, _] dL_law_751 ml_L_110 mv_X6_months rfl rfl o_1 rfl rfl (Nat.le_of_ble_eq_true rfl) hB (op_months h) (fun a σ1 t => ?_)
  refine ar_aload_n (i := 2) dL_law_754 rfl rfl ?_
  refine ar_aload_n (i := 0) dL_law_755 rfl rfl ?_
  refine ar_iload_n (i := 3) dL_law_756 rfl rfl ?_
  refine ar_iconst (v := 1) dL_law_757 (by decide) ?_
  refine ar_iadd dL_law_758 ?_
  refine ar_sld dL_law_759 hin.2.1 ?_
  refine ar_aload_n (i := 0) dL_law_760 rfl rfl ?_
  refine ar_iload_n (i := 3) dL_law_761 rfl rfl ?_
  refine ar_iconst (v := 2) dL_law_762 (by decide) ?_
  refine ar_iadd dL_law_763 ?_
  refine ar_sld dL_law_764 hin.2.2.1 ?_
  refine ar_aload_n (i := 0) dL_law_765 rfl rfl ?_
  refine ar_iload_n (i := 3) dL_law_766 rfl rfl ?_
  refine ar_iconst (v := 3) dL_law_767 (by decide) ?_
  refine ar_iadd dL_law_768 ?_
  refine ar_sld dL_law_769 hin.2.2.2 ?_
  refine fr_callVi (d := 8) (M' := mX7_months) [_, _, _] dL_law_770 ml_L_113 mv_X7_months rfl rfl o_78 rfl rfl (Nat.le_of_ble_eq_true rfl) hB t (fun b σ2 t => ?_)
  exact ar_icmp_eq (tgt := 841) dL_law_773 (by decide) (fun _ => kk σ2 t.2) (fun q => absurd t.1 q)
set_option maxHeartbeats 1000000 in
theorem lw_c24 {c : Nat} (hc : c < 64) (hB : cs ≤ B.1 ∧ ss ≤ B.2) (hin : vp_in (nI (4 * c)) E.2.2.2.2.1 ∧ vp_in (nI (4 * c) + 1) E.2.2.2.2.1 ∧ vp_in (nI (4 * c) + 2) E.2.2.2.2.1 ∧ vp_in (nI (4 * c) + 3) E.2.2.2.2.1) (h : inv c σ) (kk : ∀ σ', inv (c + 1) σ' → fGB E 9 B (mLn nm) cs ss 841 (llo c) [] σ' Q) : fGB E 9 B (mLn nm) cs ss 778 (llo c) [] σ Q := by
  refine ar_aload_n (i := 1) dL_law_778 rfl rfl ?_
  refine fr_callVi (d := 8) (M' := mX6_image) [] dL_law_779 ml_L_114 mv_X6_image rfl rfl o_1 rfl rfl (Nat.le_of_ble_eq_true rfl) hB (op_image h) (fun a σ1 t => ?_)
  refine ar_aload_n (i := 2) dL_law_782 rfl rfl ?_
  refine fr_callVi (d := 8) (M' := mX7_image) [] dL_law_783 ml_L_117 mv_X7_image rfl rfl o_78 rfl rfl (Nat.le_of_ble_eq_true rfl) hB t (fun b σ2 t => ?_)
  exact ar_icmp_eq (tgt := 841) dL_law_786 (by decide) (fun _ => kk σ2 t.2) (fun q => absurd t.1 q)
set_option maxHeartbeats 1000000 in
theorem lw_c25 {c : Nat} (hc : c < 64) (hB : cs ≤ B.1 ∧ ss ≤ B.2) (hin : vp_in (nI (4 * c)) E.2.2.2.2.1 ∧ vp_in (nI (4 * c) + 1) E.2.2.2.2.1 ∧ vp_in (nI (4 * c) + 2) E.2.2.2.2.1 ∧ vp_in (nI (4 * c) + 3) E.2.2.2.2.1) (h : inv c σ) (kk : ∀ σ', inv (c + 1) σ' → fGB E 9 B (mLn nm) cs ss 841 (llo c) [] σ' Q) : fGB E 9 B (mLn nm) cs ss 791 (llo c) [] σ Q := by
  refine ar_aload_n (i := 1) dL_law_791 rfl rfl ?_
  refine fr_callVi (d := 8) (M' := mX6_restore) [] dL_law_792 ml_L_118 mv_X6_restore rfl rfl o_1 rfl rfl (Nat.le_of_ble_eq_true rfl) hB (op_restore (by omega) h) (fun a σ1 t => ?_)
  refine ar_aload_n (i := 2) dL_law_795 rfl rfl ?_
  refine fr_callVi (d := 8) (M' := mX7_restore) [] dL_law_796 ml_L_121 mv_X7_restore rfl rfl o_78 rfl rfl (Nat.le_of_ble_eq_true rfl) hB t (fun b σ2 t => ?_)
  exact ar_icmp_eq (tgt := 841) dL_law_799 (by decide) (fun _ => kk σ2 t.2) (fun q => absurd t.1 q)
set_option maxHeartbeats 1000000 in
theorem lw_c26 {c : Nat} (hc : c < 64) (hB : cs ≤ B.1 ∧ ss ≤ B.2) (hin : vp_in (nI (4 * c)) E.2.2.2.2.1 ∧ vp_in (nI (4 * c) + 1) E.2.2.2.2.1 ∧ vp_in (nI (4 * c) + 2) E.2.2.2.2.1 ∧ vp_in (nI (4 * c) + 3) E.2.2.2.2.1) (h : inv c σ) (kk : ∀ σ', inv (c + 1) σ' → fGB E 9 B (mLn nm) cs ss 841 (llo c) [] σ' Q) : fGB E 9 B (mLn nm) cs ss 804 (llo c) [] σ Q := by
  refine ar_aload_n (i := 1) dL_law_804 rfl rfl ?_
  refine ar_aload_n (i := 0) dL_law_805 rfl rfl ?_
  refine ar_iload_n (i := 3) dL_law_806 rfl rfl ?_
  refine ar_iconst (v := 1) dL_law_807 (by decide) ?_
  refine ar_iadd dL_law_808 ?_
  refine ar_sld dL_law_809 hin.2.1 ?_
  refine fr_callVi (d := 8) (M' := mX6_count) [_] dL_law_810 ml_L_122 mv_X6_count rfl rfl o_1 rfl rfl (Nat.le_of_ble_eq_true rfl) hB (op_count h) (fun a σ1 t => ?_)
  refine ar_aload_n (i := 2) dL_law_813 rfl rfl ?_
  refine ar_aload_n (i := 0) dL_law_814 rfl rfl ?_
  refine ar_iload_n (i := 3) dL_law_815 rfl rfl ?_
  refine ar_iconst (v := 1) dL_law_816 (by decide) ?_
  refine ar_iadd dL_law_817 ?_
  refine ar_sld dL_law_818 hin.2.1 ?_
  refine fr_callVi (d := 8) (M' := mX7_count) [_] dL_law_819 ml_L_125 mv_X7_count rfl rfl o_78 rfl rfl (Nat.le_of_ble_eq_true rfl) hB t (fun b σ2 t => ?_)
  exact ar_icmp_eq (tgt := 841) dL_law_822 (by decide) (fun _ => kk σ2 t.2) (fun q => absurd t.1 q)
set_option maxHeartbeats 1000000 in
theorem lw_c27 {c : Nat} (hc : c < 64) (hB : cs ≤ B.1 ∧ ss ≤ B.2) (hin : vp_in (nI (4 * c)) E.2.2.2.2.1 ∧ vp_in (nI (4 * c) + 1) E.2.2.2.2.1 ∧ vp_in (nI (4 * c) + 2) E.2.2.2.2.1 ∧ vp_in (nI (4 * c) + 3) E.2.2.2.2.1) (h : inv c σ) (kk : ∀ σ', inv (c + 1) σ' → fGB E 9 B (mLn nm) cs ss 841 (llo c) [] σ' Q) : fGB E 9 B (mLn nm) cs ss 827 (llo c) [] σ Q := by
  refine ar_aload_n (i := 1) dL_law_827 rfl rfl ?_
  refine fr_callVj (d := 8) (M' := mX6_digest) [] dL_law_828 ml_L_126 mv_X6_digest rfl rfl o_1 rfl rfl (Nat.le_of_ble_eq_true rfl) hB (op_digest h) (fun a σ1 t => ?_)
  refine ar_aload_n (i := 2) dL_law_831 rfl rfl ?_
  refine fr_callVj (d := 8) (M' := mX7_digest) [] dL_law_832 ml_L_130 mv_X7_digest rfl rfl o_78 rfl rfl (Nat.le_of_ble_eq_true rfl) hB t (fun b σ2 t => ?_)
  exact ar_lcmp_eq (tgt := 841) dL_law_835 dL_law_836 (by decide) (fun _ => kk σ2 t.2) (fun q => absurd t.1 q)
set_option maxHeartbeats 4000000 in
theorem lw_sw {c j : Nat} (hc : c < 64) (hB : cs ≤ B.1 ∧ ss ≤ B.2) (hin : vp_in (nI (4 * c)) E.2.2.2.2.1 ∧ vp_in (nI (4 * c) + 1) E.2.2.2.2.1 ∧ vp_in (nI (4 * c) + 2) E.2.2.2.2.1 ∧ vp_in (nI (4 * c) + 3) E.2.2.2.2.1) (h : inv c σ) (hj : j < 32) (kk : ∀ σ', inv (c + 1) σ' → fGB E 9 B (mLn nm) cs ss 841 (llo c) [] σ' Q) : fGB E 9 B (mLn nm) cs ss 32 (llo c) [.int (nI j)] σ Q := by
  rcases (show j = 0 ∨ j = 1 ∨ j = 2 ∨ j = 3 ∨ j = 4 ∨ j = 5 ∨ j = 6 ∨ j = 7 ∨ j = 8 ∨ j = 9 ∨ j = 10 ∨ j = 11 ∨ j = 12 ∨ j = 13 ∨ j = 14 ∨ j = 15 ∨ j = 16 ∨ j = 17 ∨ j = 18 ∨ j = 19 ∨ j = 20 ∨ j = 21 ∨ j = 22 ∨ j = 23 ∨ j = 24 ∨ j = 25 ∨ j = 26 ∨ j = 27 ∨ j = 28 ∨ j = 29 ∨ j = 30 ∨ j = 31 by omega) with rfl | rfl | rfl | rfl | rfl | rfl | rfl | rfl | rfl | rfl | rfl | rfl | rfl | rfl | rfl | rfl | rfl | rfl | rfl | rfl | rfl | rfl | rfl | rfl | rfl | rfl | rfl | rfl | rfl | rfl | rfl | rfl
  · exact ar_tableIn (tgt := 160) dL_law_32 (by decide) (by decide) rfl (by decide) (lw_c0 hc hB hin h kk)
  · exact ar_tableIn (tgt := 183) dL_law_32 (by decide) (by decide) rfl (by decide) (lw_c1 hc hB hin h kk)
  · exact ar_tableIn (tgt := 196) dL_law_32 (by decide) (by decide) rfl (by decide) (lw_c2 hc hB hin h kk)
  · exact ar_tableIn (tgt := 209) dL_law_32 (by decide) (by decide) rfl (by decide) (lw_c3 hc hB hin h kk)
  · exact ar_tableIn (tgt := 222) dL_law_32 (by decide) (by decide) rfl (by decide) (lw_c4 hc hB hin h kk)
  · exact ar_tableIn (tgt := 255) dL_law_32 (by decide) (by decide) rfl (by decide) (lw_c5 hc hB hin h kk)
  · exact ar_tableIn (tgt := 288) dL_law_32 (by decide) (by decide) rfl (by decide) (lw_c6 hc hB hin h kk)
  · exact ar_tableIn (tgt := 321) dL_law_32 (by decide) (by decide) rfl (by decide) (lw_c7 hc hB hin h kk)
  · exact ar_tableIn (tgt := 370) dL_law_32 (by decide) (by decide) rfl (by decide) (lw_c8 hc hB hin h kk)
  · exact ar_tableIn (tgt := 383) dL_law_32 (by decide) (by decide) rfl (by decide) (lw_c9 hc hB hin h kk)
  · exact ar_tableIn (tgt := 416) dL_law_32 (by decide) (by decide) rfl (by decide) (lw_c10 hc hB hin h kk)
  · exact ar_tableIn (tgt := 449) dL_law_32 (by decide) (by decide) rfl (by decide) (lw_c11 hc hB hin h kk)
  · exact ar_tableIn (tgt := 492) dL_law_32 (by decide) (by decide) rfl (by decide) (lw_c12 hc hB hin h kk)
  · exact ar_tableIn (tgt := 515) dL_law_32 (by decide) (by decide) rfl (by decide) (lw_c13 hc hB hin h kk)
  · exact ar_tableIn (tgt := 538) dL_law_32 (by decide) (by decide) rfl (by decide) (lw_c14 hc hB hin h kk)
  · exact ar_tableIn (tgt := 571) dL_law_32 (by decide) (by decide) rfl (by decide) (lw_c15 hc hB hin h kk)
  · exact ar_tableIn (tgt := 594) dL_law_32 (by decide) (by decide) rfl (by decide) (lw_c16 hc hB hin h kk)
  · exact ar_tableIn (tgt := 627) dL_law_32 (by decide) (by decide) rfl (by decide) (lw_c17 hc hB hin h kk)
  · exact ar_tableIn (tgt := 650) dL_law_32 (by decide) (by decide) rfl (by decide) (lw_c18 hc hB hin h kk)
  · exact ar_tableIn (tgt := 673) dL_law_32 (by decide) (by decide) rfl (by decide) (lw_c19 hc hB hin h kk)
  · exact ar_tableIn (tgt := 686) dL_law_32 (by decide) (by decide) rfl (by decide) (lw_c20 hc hB hin h kk)
  · exact ar_tableIn (tgt := 699) dL_law_32 (by decide) (by decide) rfl (by decide) (lw_c21 hc hB hin h kk)
  · exact ar_tableIn (tgt := 722) dL_law_32 (by decide) (by decide) rfl (by decide) (lw_c22 hc hB hin h kk)
  · exact ar_tableIn (tgt := 735) dL_law_32 (by decide) (by decide) rfl (by decide) (lw_c23 hc hB hin h kk)
  · exact ar_tableIn (tgt := 778) dL_law_32 (by decide) (by decide) rfl (by decide) (lw_c24 hc hB hin h kk)
  · exact ar_tableIn (tgt := 791) dL_law_32 (by decide) (by decide) rfl (by decide) (lw_c25 hc hB hin h kk)
  · exact ar_tableIn (tgt := 804) dL_law_32 (by decide) (by decide) rfl (by decide) (lw_c26 hc hB hin h kk)
  · exact ar_tableIn (tgt := 827) dL_law_32 (by decide) (by decide) rfl (by decide) (lw_c27 hc hB hin h kk)
  · exact ar_tableOut (tgt := 841) dL_law_32 (by decide) (by decide) (kk σ (h.up (Nat.le_succ c)))
  · exact ar_tableOut (tgt := 841) dL_law_32 (by decide) (by decide) (kk σ (h.up (Nat.le_succ c)))
  · exact ar_tableOut (tgt := 841) dL_law_32 (by decide) (by decide) (kk σ (h.up (Nat.le_succ c)))
  · exact ar_tableOut (tgt := 841) dL_law_32 (by decide) (by decide) (kk σ (h.up (Nat.le_succ c)))
end LW
