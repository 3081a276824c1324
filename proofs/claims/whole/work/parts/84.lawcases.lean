theorem lc_49 : lt_C RL 49 mL_near [(0, 9, 12, 13)] 3 := ⟨mm_inW 916 (by decide +kernel) (by decide +kernel), mm_inW 917 (by decide +kernel) (by decide +kernel), mm_inW 918 (by decide +kernel) (by decide +kernel), mm_inW 77 (by decide +kernel) (by decide +kernel), ⟨by decide +kernel, by decide +kernel, by decide +kernel⟩, by decide⟩
theorem lc_58 : lt_C RL 58 mL_line [(0, 10, 13, 13)] 4 := ⟨mm_inW 986 (by decide +kernel) (by decide +kernel), mm_inW 987 (by decide +kernel) (by decide +kernel), mm_inW 988 (by decide +kernel) (by decide +kernel), mm_inW 77 (by decide +kernel) (by decide +kernel), ⟨by decide +kernel, by decide +kernel, by decide +kernel⟩, by decide⟩
theorem lc_94 : lt_C RL 94 mL_rootLine [(0, 10, 13, 13)] 4 := ⟨mm_inW 994 (by decide +kernel) (by decide +kernel), mm_inW 995 (by decide +kernel) (by decide +kernel), mm_inW 996 (by decide +kernel) (by decide +kernel), mm_inW 77 (by decide +kernel) (by decide +kernel), ⟨by decide +kernel, by decide +kernel, by decide +kernel⟩, by decide⟩
theorem law_c0 {L i : Nat} {xs : Nat → Int32} {M : mm_Mem} {σ : g_st} {z : Nat × Nat} {Q : Option Value → mm_Mem → Prop} (hi : i + 6 ≤ L) (hL : L ≤ 3072) (hq : lq M σ) (K : ∀ M' σ', lq M' σ' → lx_X mL_law 40 (some (L, xs)) z 1140 (lw_ls i) [] M' Q) : lx_X mL_law 40 (some (L, xs)) z 196 (lw_ls i) [] M Q := by
  obtain ⟨hC, hM, f0, h54⟩ := id hq
  obtain ⟨b0, fs0, e0⟩ := hC.rc0
  refine lx_aload_n (pc := 196) dL_law_196 rfl ?_
  refine lx_aload_n (pc := 197) dL_law_197 rfl ?_
  refine lx_iload (pc := 198) dL_law_198 rfl ?_
  refine lx_iconst (pc := 200) (v := 1) dL_law_200 (by decide) ?_
  refine lx_iadd (pc := 201) dL_law_201 ?_
  refine lx_sld (pc := 202) dL_law_202 (lw_i1 hi hL) ?_
  refine lx_aload_n (pc := 203) dL_law_203 rfl ?_
  refine lx_iload (pc := 204) dL_law_204 rfl ?_
  refine lx_iconst (pc := 206) (v := 2) dL_law_206 (by decide) ?_
  refine lx_iadd (pc := 207) dL_law_207 ?_
  refine lx_sld (pc := 208) dL_law_208 (lw_i2 hi hL) ?_
  refine lx_aload_n (pc := 209) dL_law_209 rfl ?_
  refine lx_iload (pc := 210) dL_law_210 rfl ?_
  refine lx_iconst (pc := 212) (v := 3) dL_law_212 (by decide) ?_
  refine lx_iadd (pc := 213) dL_law_213 ?_
  refine lx_sld (pc := 214) dL_law_214 (lw_i3 hi hL) ?_
  refine lx_aload_n (pc := 215) dL_law_215 rfl ?_
  refine lx_iload (pc := 216) dL_law_216 rfl ?_
  refine lx_iconst (pc := 218) (v := 4) dL_law_218 (by decide) ?_
  refine lx_iadd (pc := 219) dL_law_219 ?_
  refine lx_sld (pc := 220) dL_law_220 (lw_i4 hi hL) ?_
  refine lx_aload_n (pc := 221) dL_law_221 rfl ?_
  refine lx_iload (pc := 222) dL_law_222 rfl ?_
  refine lx_iconst (pc := 224) (v := 5) dL_law_224 (by decide) ?_
  refine lx_iadd (pc := 225) dL_law_225 ?_
  refine lx_sld (pc := 226) dL_law_226 (lw_i5 hi hL) ?_
  refine lx_invV (pc := 227) (As := [.int _, .int _, .int _, .int _, .int _]) (rest := []) b0 e0 rfl dL_law_227 cs_L_26 (oC_feed hC) rfl rfl (Nat.le_of_ble_eq_true rfl) (Nat.le_of_ble_eq_true rfl) (fun r1 M1 hp1 => ?_)
  obtain ⟨rfl, hC1, hf1⟩ := hp1
  obtain ⟨hM1, h541⟩ := hq.C hf1
  obtain ⟨b1, fs1, e1⟩ := hM1.rc0
  refine lx_aload_n (pc := 230) dL_law_230 rfl ?_
  refine lx_aload_n (pc := 231) dL_law_231 rfl ?_
  refine lx_iload (pc := 232) dL_law_232 rfl ?_
  refine lx_iconst (pc := 234) (v := 1) dL_law_234 (by decide) ?_
  refine lx_iadd (pc := 235) dL_law_235 ?_
  refine lx_sld (pc := 236) dL_law_236 (lw_i1 hi hL) ?_
  refine lx_aload_n (pc := 237) dL_law_237 rfl ?_
  refine lx_iload (pc := 238) dL_law_238 rfl ?_
  refine lx_iconst (pc := 240) (v := 2) dL_law_240 (by decide) ?_
  refine lx_iadd (pc := 241) dL_law_241 ?_
  refine lx_sld (pc := 242) dL_law_242 (lw_i2 hi hL) ?_
  refine lx_aload_n (pc := 243) dL_law_243 rfl ?_
  refine lx_iload (pc := 244) dL_law_244 rfl ?_
  refine lx_iconst (pc := 246) (v := 3) dL_law_246 (by decide) ?_
  refine lx_iadd (pc := 247) dL_law_247 ?_
  refine lx_sld (pc := 248) dL_law_248 (lw_i3 hi hL) ?_
  refine lx_aload_n (pc := 249) dL_law_249 rfl ?_
  refine lx_iload (pc := 250) dL_law_250 rfl ?_
  refine lx_iconst (pc := 252) (v := 4) dL_law_252 (by decide) ?_
  refine lx_iadd (pc := 253) dL_law_253 ?_
  refine lx_sld (pc := 254) dL_law_254 (lw_i4 hi hL) ?_
  refine lx_aload_n (pc := 255) dL_law_255 rfl ?_
  refine lx_iload (pc := 256) dL_law_256 rfl ?_
  refine lx_iconst (pc := 258) (v := 5) dL_law_258 (by decide) ?_
  refine lx_iadd (pc := 259) dL_law_259 ?_
  refine lx_sld (pc := 260) dL_law_260 (lw_i5 hi hL) ?_
  refine lx_invV (pc := 261) (As := [.int _, .int _, .int _, .int _, .int _]) (rest := [.int _]) b1 e1 rfl dL_law_261 cs_L_30 (oM_feed hM1) rfl rfl (Nat.le_of_ble_eq_true rfl) (Nat.le_of_ble_eq_true rfl) (fun r2 M2 hp2 => ?_)
  obtain ⟨rfl, hM2, hf2⟩ := hp2
  exact lx_icmp_eq (pc := 264) (tgt := 1140) dL_law_264 (by decide) (fun _ => K _ _ (lq.M hC1 h541 hM2 hf2)) (fun c => absurd rfl c)
theorem law_c1 {L i : Nat} {xs : Nat → Int32} {M : mm_Mem} {σ : g_st} {z : Nat × Nat} {Q : Option Value → mm_Mem → Prop} (hi : i + 6 ≤ L) (hL : L ≤ 3072) (hq : lq M σ) (K : ∀ M' σ', lq M' σ' → lx_X mL_law 40 (some (L, xs)) z 1140 (lw_ls i) [] M' Q) : lx_X mL_law 40 (some (L, xs)) z 269 (lw_ls i) [] M Q := by
  obtain ⟨hC, hM, f0, h54⟩ := id hq
  obtain ⟨b0, fs0, e0⟩ := hC.rc0
  refine lx_aload_n (pc := 269) dL_law_269 rfl ?_
  refine lx_aload_n (pc := 270) dL_law_270 rfl ?_
  refine lx_iload (pc := 271) dL_law_271 rfl ?_
  refine lx_iconst (pc := 273) (v := 1) dL_law_273 (by decide) ?_
  refine lx_iadd (pc := 274) dL_law_274 ?_
  refine lx_sld (pc := 275) dL_law_275 (lw_i1 hi hL) ?_
  refine lx_invV (pc := 276) (As := [.int _]) (rest := []) b0 e0 rfl dL_law_276 cs_L_31 (oC_end hC) rfl rfl (Nat.le_of_ble_eq_true rfl) (Nat.le_of_ble_eq_true rfl) (fun r1 M1 hp1 => ?_)
  obtain ⟨rfl, hC1, hf1⟩ := hp1
  obtain ⟨hM1, h541⟩ := hq.C hf1
  obtain ⟨b1, fs1, e1⟩ := hM1.rc0
  refine lx_aload_n (pc := 279) dL_law_279 rfl ?_
  refine lx_aload_n (pc := 280) dL_law_280 rfl ?_
  refine lx_iload (pc := 281) dL_law_281 rfl ?_
  refine lx_iconst (pc := 283) (v := 1) dL_law_283 (by decide) ?_
  refine lx_iadd (pc := 284) dL_law_284 ?_
  refine lx_sld (pc := 285) dL_law_285 (lw_i1 hi hL) ?_
  refine lx_invV (pc := 286) (As := [.int _]) (rest := [.int _]) b1 e1 rfl dL_law_286 cs_L_35 (oM_end hM1) rfl rfl (Nat.le_of_ble_eq_true rfl) (Nat.le_of_ble_eq_true rfl) (fun r2 M2 hp2 => ?_)
  obtain ⟨rfl, hM2, hf2⟩ := hp2
  exact lx_icmp_eq (pc := 289) (tgt := 1140) dL_law_289 (by decide) (fun _ => K _ _ (lq.M hC1 h541 hM2 hf2)) (fun c => absurd rfl c)
theorem law_c2 {L i : Nat} {xs : Nat → Int32} {M : mm_Mem} {σ : g_st} {z : Nat × Nat} {Q : Option Value → mm_Mem → Prop} (hi : i + 6 ≤ L) (hL : L ≤ 3072) (hq : lq M σ) (K : ∀ M' σ', lq M' σ' → lx_X mL_law 40 (some (L, xs)) z 1140 (lw_ls i) [] M' Q) : lx_X mL_law 40 (some (L, xs)) z 294 (lw_ls i) [] M Q := by
  obtain ⟨hC, hM, f0, h54⟩ := id hq
  obtain ⟨b0, fs0, e0⟩ := hC.rc0
  refine lx_aload_n (pc := 294) dL_law_294 rfl ?_
  refine lx_invV (pc := 295) (As := []) (rest := []) b0 e0 rfl dL_law_295 cs_L_36 (oC_net hC) rfl rfl (Nat.le_of_ble_eq_true rfl) (Nat.le_of_ble_eq_true rfl) (fun r1 M1 hp1 => ?_)
  obtain ⟨rfl, hC1, hf1⟩ := hp1
  obtain ⟨hM1, h541⟩ := hq.C hf1
  obtain ⟨b1, fs1, e1⟩ := hM1.rc0
  refine lx_aload_n (pc := 298) dL_law_298 rfl ?_
  refine lx_invV (pc := 299) (As := []) (rest := [.int _]) b1 e1 rfl dL_law_299 cs_L_40 (oM_net hM1) rfl rfl (Nat.le_of_ble_eq_true rfl) (Nat.le_of_ble_eq_true rfl) (fun r2 M2 hp2 => ?_)
  obtain ⟨rfl, hM2, hf2⟩ := hp2
  exact lx_icmp_eq (pc := 302) (tgt := 1140) dL_law_302 (by decide) (fun _ => K _ _ (lq.M hC1 h541 hM2 hf2)) (fun c => absurd rfl c)
theorem law_c3 {L i : Nat} {xs : Nat → Int32} {M : mm_Mem} {σ : g_st} {z : Nat × Nat} {Q : Option Value → mm_Mem → Prop} (hi : i + 6 ≤ L) (hL : L ≤ 3072) (hq : lq M σ) (K : ∀ M' σ', lq M' σ' → lx_X mL_law 40 (some (L, xs)) z 1140 (lw_ls i) [] M' Q) : lx_X mL_law 40 (some (L, xs)) z 307 (lw_ls i) [] M Q := by
  obtain ⟨hC, hM, f0, h54⟩ := id hq
  obtain ⟨b0, fs0, e0⟩ := hC.rc0
  refine lx_aload_n (pc := 307) dL_law_307 rfl ?_
  refine lx_invV (pc := 308) (As := []) (rest := []) b0 e0 rfl dL_law_308 cs_L_41 (oC_fault hC) rfl rfl (Nat.le_of_ble_eq_true rfl) (Nat.le_of_ble_eq_true rfl) (fun r1 M1 hp1 => ?_)
  obtain ⟨rfl, hC1, hf1⟩ := hp1
  obtain ⟨hM1, h541⟩ := hq.C hf1
  obtain ⟨b1, fs1, e1⟩ := hM1.rc0
  refine lx_aload_n (pc := 311) dL_law_311 rfl ?_
  refine lx_invV (pc := 312) (As := []) (rest := [.int _]) b1 e1 rfl dL_law_312 cs_L_44 (oM_fault hM1) rfl rfl (Nat.le_of_ble_eq_true rfl) (Nat.le_of_ble_eq_true rfl) (fun r2 M2 hp2 => ?_)
  obtain ⟨rfl, hM2, hf2⟩ := hp2
  exact lx_icmp_eq (pc := 315) (tgt := 1140) dL_law_315 (by decide) (fun _ => K _ _ (lq.M hC1 h541 hM2 hf2)) (fun c => absurd rfl c)
theorem law_c4 {L i : Nat} {xs : Nat → Int32} {M : mm_Mem} {σ : g_st} {z : Nat × Nat} {Q : Option Value → mm_Mem → Prop} (hi : i + 6 ≤ L) (hL : L ≤ 3072) (hq : lq M σ) (K : ∀ M' σ', lq M' σ' → lx_X mL_law 40 (some (L, xs)) z 1140 (lw_ls i) [] M' Q) : lx_X mL_law 40 (some (L, xs)) z 320 (lw_ls i) [] M Q := by
  obtain ⟨hC, hM, f0, h54⟩ := id hq
  obtain ⟨b0, fs0, e0⟩ := hC.rc0
  refine lx_aload_n (pc := 320) dL_law_320 rfl ?_
  refine lx_aload_n (pc := 321) dL_law_321 rfl ?_
  refine lx_iload (pc := 322) dL_law_322 rfl ?_
  refine lx_iconst (pc := 324) (v := 1) dL_law_324 (by decide) ?_
  refine lx_iadd (pc := 325) dL_law_325 ?_
  refine lx_sld (pc := 326) dL_law_326 (lw_i1 hi hL) ?_
  refine lx_invV (pc := 327) (As := [.int _]) (rest := []) b0 e0 rfl dL_law_327 cs_L_45 (oC_now hC) rfl rfl (Nat.le_of_ble_eq_true rfl) (Nat.le_of_ble_eq_true rfl) (fun r1 M1 hp1 => ?_)
  obtain ⟨rfl, hC1, hf1⟩ := hp1
  obtain ⟨hM1, h541⟩ := hq.C hf1
  obtain ⟨b1, fs1, e1⟩ := hM1.rc0
  refine lx_aload_n (pc := 330) dL_law_330 rfl ?_
  refine lx_aload_n (pc := 331) dL_law_331 rfl ?_
  refine lx_iload (pc := 332) dL_law_332 rfl ?_
  refine lx_iconst (pc := 334) (v := 1) dL_law_334 (by decide) ?_
  refine lx_iadd (pc := 335) dL_law_335 ?_
  refine lx_sld (pc := 336) dL_law_336 (lw_i1 hi hL) ?_
  refine lx_invV (pc := 337) (As := [.int _]) (rest := [.int _]) b1 e1 rfl dL_law_337 cs_L_48 (oM_now hM1) rfl rfl (Nat.le_of_ble_eq_true rfl) (Nat.le_of_ble_eq_true rfl) (fun r2 M2 hp2 => ?_)
  obtain ⟨rfl, hM2, hf2⟩ := hp2
  exact lx_icmp_eq (pc := 340) (tgt := 1140) dL_law_340 (by decide) (fun _ => K _ _ (lq.M hC1 h541 hM2 hf2)) (fun c => absurd rfl c)
theorem law_c5 {L i : Nat} {xs : Nat → Int32} {M : mm_Mem} {σ : g_st} {z : Nat × Nat} {Q : Option Value → mm_Mem → Prop} (hi : i + 6 ≤ L) (hL : L ≤ 3072) (hq : lq M σ) (hzz : z.1 + 1 ≤ 601024 ∧ z.2 + 6 ≤ 7293034) (K : ∀ M' σ', lq M' σ' → lx_X mL_law 40 (some (L, xs)) (z.1 + 1, z.2 + 6) 1140 (lw_ls i) [] M' Q) : lx_X mL_law 40 (some (L, xs)) z 345 (lw_ls i) [] M Q := by
  obtain ⟨hC, hM, f0, h54⟩ := id hq
  obtain ⟨b0, fs0, e0⟩ := hC.rc0
  refine lx_aload_n (pc := 345) dL_law_345 rfl ?_
  refine lx_aload_n (pc := 346) dL_law_346 rfl ?_
  refine lx_iload (pc := 347) dL_law_347 rfl ?_
  refine lx_iconst (pc := 349) (v := 1) dL_law_349 (by decide) ?_
  refine lx_iadd (pc := 350) dL_law_350 ?_
  refine lx_sld (pc := 351) dL_law_351 (lw_i1 hi hL) ?_
  refine lx_aload_n (pc := 352) dL_law_352 rfl ?_
  refine lx_invSW (pc := 353) (As := [.ref 0, .int _, .ref 54]) (rest := []) dL_law_353 lc_49 (lt_near hC h54) rfl rfl (Nat.le_of_ble_eq_true rfl) (Nat.le_of_ble_eq_true rfl) hzz (fun r1 M1 hp1 => ?_)
  obtain ⟨rfl, hC1, hf1, f1, h54a, hv1⟩ := hp1
  obtain ⟨th, hT⟩ := hM
  have hM1 : MS M1 σ := ⟨th, hT.eq fun j hj1 hj2 => hf1 j hj1 (by omega)⟩
  obtain ⟨b1, fs1, e1⟩ := hM1.rc0
  refine lx_istore (pc := 356) dL_law_356 rfl ?_
  refine lx_aload_n (pc := 358) dL_law_358 rfl ?_
  refine lx_aload_n (pc := 359) dL_law_359 rfl ?_
  refine lx_iload (pc := 360) dL_law_360 rfl ?_
  refine lx_iconst (pc := 362) (v := 1) dL_law_362 (by decide) ?_
  refine lx_iadd (pc := 363) dL_law_363 ?_
  refine lx_sld (pc := 364) dL_law_364 (lw_i1 hi hL) ?_
  refine lx_invV (pc := 365) (As := [.int _]) (rest := []) b1 e1 rfl dL_law_365 cs_L_54 (sM_near hM1) rfl rfl (Nat.le_of_ble_eq_true rfl) (Nat.le_of_ble_eq_true rfl) (fun r2 M2 hp2 => ?_)
  obtain ⟨rfl, hT2, hf2⟩ := hp2
  obtain ⟨b2, fs2, e2⟩ := hT2.thr.rc
  refine lx_istore (pc := 368) dL_law_368 rfl ?_
  refine lx_aload_n (pc := 370) dL_law_370 rfl ?_
  refine lx_invV (pc := 371) (As := []) (rest := []) b2 e2 rfl dL_law_371 cs_L_55 (sX10_thrown hT2.thr) rfl rfl (Nat.le_of_ble_eq_true rfl) (Nat.le_of_ble_eq_true rfl) (fun r3 M3 hp3 => ?_)
  obtain ⟨rfl, rfl⟩ := hp3
  refine lx_iload (pc := 374) dL_law_374 rfl ?_
  refine lx_icmp_eq (pc := 376) (tgt := 381) dL_law_376 (by decide) (fun _ => ?_) (fun c => absurd rfl c)
  refine lx_iload (pc := 381) dL_law_381 rfl ?_
  have hq2 : lq M3 σ := lq.M hC1 ⟨f1, h54a⟩ ⟨_, hT2⟩ hf2
  have KE : ∀ ls, mm_wk ls (lw_ls i) → lx_X mL_law 40 (some (L, xs)) (z.1 + 1, z.2 + 6) 398 ls [] M3 Q := fun ls hw => lx_weak (lx_goto (pc := 398) (tgt := 1140) dL_law_398 (by decide) (K M3 σ hq2)) hw
  refine lx_if_ne (pc := 383) (tgt := 398) dL_law_383 (by decide) (fun _ => KE _ ⟨Or.inr rfl, Or.inr rfl, Or.inr rfl, Or.inr rfl, Or.inr rfl, Or.inl rfl, Or.inl rfl, trivial⟩) (fun cz => ?_)
  have h54b : mm_at M3 54 (mm_aJ 1 f1) := ⟨h54a.1, (hf2 54 (Or.inr (by decide))).trans h54a.2⟩
  obtain ⟨ov, eo⟩ : ∃ ov, o_near σ (xs (nI i + 1).toNatClampNeg) = some ov := by
    cases eo : o_near σ (xs (nI i + 1).toNatClampNeg) with
    | some ov => exact ⟨ov, rfl⟩
    | none => rw [if_pos eo] at cz; exact absurd cz (by decide)
  refine lx_aload_n (pc := 386) dL_law_386 rfl ?_
  refine lx_iconst (pc := 387) (v := 0) dL_law_387 (by decide) ?_
  refine lx_lald (pc := 388) dL_law_388 h54b.1 h54b.2 lt_in ?_
  refine lx_iload (pc := 389) dL_law_389 rfl ?_
  refine lx_i2l (pc := 391) dL_law_391 ?_
  refine lx_lcmp (pc := 392) dL_law_392 ?_
  exact lx_if_eq (pc := 393) (tgt := 398) dL_law_393 (by decide) (fun _ => KE _ ⟨Or.inr rfl, Or.inr rfl, Or.inr rfl, Or.inr rfl, Or.inr rfl, Or.inl rfl, Or.inl rfl, trivial⟩) (fun c => absurd (lw_cmp0 (by rw [eo]; exact hv1 ov eo)) c)
theorem law_c6 {L i : Nat} {xs : Nat → Int32} {M : mm_Mem} {σ : g_st} {z : Nat × Nat} {Q : Option Value → mm_Mem → Prop} (hi : i + 6 ≤ L) (hL : L ≤ 3072) (hq : lq M σ) (hzz : z.1 + 1 ≤ 601024 ∧ z.2 + 6 ≤ 7293034) (K : ∀ M' σ', lq M' σ' → lx_X mL_law 40 (some (L, xs)) (z.1 + 1, z.2 + 6) 1140 (lw_ls i) [] M' Q) : lx_X mL_law 40 (some (L, xs)) z 401 (lw_ls i) [] M Q := by
  obtain ⟨hC, hM, f0, h54⟩ := id hq
  obtain ⟨b0, fs0, e0⟩ := hC.rc0
  refine lx_aload_n (pc := 401) dL_law_401 rfl ?_
  refine lx_aload_n (pc := 402) dL_law_402 rfl ?_
  refine lx_iload (pc := 403) dL_law_403 rfl ?_
  refine lx_iconst (pc := 405) (v := 1) dL_law_405 (by decide) ?_
  refine lx_iadd (pc := 406) dL_law_406 ?_
  refine lx_sld (pc := 407) dL_law_407 (lw_i1 hi hL) ?_
  refine lx_aload_n (pc := 408) dL_law_408 rfl ?_
  refine lx_iload (pc := 409) dL_law_409 rfl ?_
  refine lx_iconst (pc := 411) (v := 2) dL_law_411 (by decide) ?_
  refine lx_iadd (pc := 412) dL_law_412 ?_
  refine lx_sld (pc := 413) dL_law_413 (lw_i2 hi hL) ?_
  refine lx_aload_n (pc := 414) dL_law_414 rfl ?_
  refine lx_invSW (pc := 415) (As := [.ref 0, .int _, .int _, .ref 54]) (rest := []) dL_law_415 lc_58 (lt_line hC h54) rfl rfl (Nat.le_of_ble_eq_true rfl) (Nat.le_of_ble_eq_true rfl) hzz (fun r1 M1 hp1 => ?_)
  obtain ⟨rfl, hC1, hf1, f1, h54a, hv1⟩ := hp1
  obtain ⟨th, hT⟩ := hM
  have hM1 : MS M1 σ := ⟨th, hT.eq fun j hj1 hj2 => hf1 j hj1 (by omega)⟩
  obtain ⟨b1, fs1, e1⟩ := hM1.rc0
  refine lx_istore (pc := 418) dL_law_418 rfl ?_
  refine lx_aload_n (pc := 420) dL_law_420 rfl ?_
  refine lx_aload_n (pc := 421) dL_law_421 rfl ?_
  refine lx_iload (pc := 422) dL_law_422 rfl ?_
  refine lx_iconst (pc := 424) (v := 1) dL_law_424 (by decide) ?_
  refine lx_iadd (pc := 425) dL_law_425 ?_
  refine lx_sld (pc := 426) dL_law_426 (lw_i1 hi hL) ?_
  refine lx_aload_n (pc := 427) dL_law_427 rfl ?_
  refine lx_iload (pc := 428) dL_law_428 rfl ?_
  refine lx_iconst (pc := 430) (v := 2) dL_law_430 (by decide) ?_
  refine lx_iadd (pc := 431) dL_law_431 ?_
  refine lx_sld (pc := 432) dL_law_432 (lw_i2 hi hL) ?_
  refine lx_invV (pc := 433) (As := [.int _, .int _]) (rest := []) b1 e1 rfl dL_law_433 cs_L_61 (sM_line hM1) rfl rfl (Nat.le_of_ble_eq_true rfl) (Nat.le_of_ble_eq_true rfl) (fun r2 M2 hp2 => ?_)
  obtain ⟨rfl, hT2, hf2⟩ := hp2
  obtain ⟨b2, fs2, e2⟩ := hT2.thr.rc
  refine lx_istore (pc := 436) dL_law_436 rfl ?_
  refine lx_aload_n (pc := 438) dL_law_438 rfl ?_
  refine lx_invV (pc := 439) (As := []) (rest := []) b2 e2 rfl dL_law_439 cs_L_55 (sX10_thrown hT2.thr) rfl rfl (Nat.le_of_ble_eq_true rfl) (Nat.le_of_ble_eq_true rfl) (fun r3 M3 hp3 => ?_)
  obtain ⟨rfl, rfl⟩ := hp3
  refine lx_iload (pc := 442) dL_law_442 rfl ?_
  refine lx_icmp_eq (pc := 444) (tgt := 449) dL_law_444 (by decide) (fun _ => ?_) (fun c => absurd rfl c)
  refine lx_iload (pc := 449) dL_law_449 rfl ?_
  have hq2 : lq M3 σ := lq.M hC1 ⟨f1, h54a⟩ ⟨_, hT2⟩ hf2
  have KE : ∀ ls, mm_wk ls (lw_ls i) → lx_X mL_law 40 (some (L, xs)) (z.1 + 1, z.2 + 6) 466 ls [] M3 Q := fun ls hw => lx_weak (lx_goto (pc := 466) (tgt := 1140) dL_law_466 (by decide) (K M3 σ hq2)) hw
  refine lx_if_ne (pc := 451) (tgt := 466) dL_law_451 (by decide) (fun _ => KE _ ⟨Or.inr rfl, Or.inr rfl, Or.inr rfl, Or.inr rfl, Or.inr rfl, Or.inl rfl, Or.inl rfl, trivial⟩) (fun cz => ?_)
  have h54b : mm_at M3 54 (mm_aJ 1 f1) := ⟨h54a.1, (hf2 54 (Or.inr (by decide))).trans h54a.2⟩
  obtain ⟨ov, eo⟩ : ∃ ov, o_line σ (xs (nI i + 1).toNatClampNeg) (xs (nI i + 2).toNatClampNeg) = some ov := by
    cases eo : o_line σ (xs (nI i + 1).toNatClampNeg) (xs (nI i + 2).toNatClampNeg) with
    | some ov => exact ⟨ov, rfl⟩
    | none => rw [if_pos eo] at cz; exact absurd cz (by decide)
  refine lx_aload_n (pc := 454) dL_law_454 rfl ?_
  refine lx_iconst (pc := 455) (v := 0) dL_law_455 (by decide) ?_
  refine lx_lald (pc := 456) dL_law_456 h54b.1 h54b.2 lt_in ?_
  refine lx_iload (pc := 457) dL_law_457 rfl ?_
  refine lx_i2l (pc := 459) dL_law_459 ?_
  refine lx_lcmp (pc := 460) dL_law_460 ?_
  exact lx_if_eq (pc := 461) (tgt := 466) dL_law_461 (by decide) (fun _ => KE _ ⟨Or.inr rfl, Or.inr rfl, Or.inr rfl, Or.inr rfl, Or.inr rfl, Or.inl rfl, Or.inl rfl, trivial⟩) (fun c => absurd (lw_cmp0 (by rw [eo]; exact hv1 ov eo)) c)
theorem law_c7 {L i : Nat} {xs : Nat → Int32} {M : mm_Mem} {σ : g_st} {z : Nat × Nat} {Q : Option Value → mm_Mem → Prop} (hi : i + 6 ≤ L) (hL : L ≤ 3072) (hq : lq M σ) (K : ∀ M' σ', lq M' σ' → lx_X mL_law 40 (some (L, xs)) z 1140 (lw_ls i) [] M' Q) : lx_X mL_law 40 (some (L, xs)) z 469 (lw_ls i) [] M Q := by
  obtain ⟨hC, hM, f0, h54⟩ := id hq
  obtain ⟨b0, fs0, e0⟩ := hC.rc0
  refine lx_aload_n (pc := 469) dL_law_469 rfl ?_
  refine lx_aload_n (pc := 470) dL_law_470 rfl ?_
  refine lx_iload (pc := 471) dL_law_471 rfl ?_
  refine lx_iconst (pc := 473) (v := 1) dL_law_473 (by decide) ?_
  refine lx_iadd (pc := 474) dL_law_474 ?_
  refine lx_sld (pc := 475) dL_law_475 (lw_i1 hi hL) ?_
  refine lx_aload_n (pc := 476) dL_law_476 rfl ?_
  refine lx_iload (pc := 477) dL_law_477 rfl ?_
  refine lx_iconst (pc := 479) (v := 2) dL_law_479 (by decide) ?_
  refine lx_iadd (pc := 480) dL_law_480 ?_
  refine lx_sld (pc := 481) dL_law_481 (lw_i2 hi hL) ?_
  refine lx_invV (pc := 482) (As := [.int _, .int _]) (rest := []) b0 e0 rfl dL_law_482 cs_L_62 (oC_tie hC) rfl rfl (Nat.le_of_ble_eq_true rfl) (Nat.le_of_ble_eq_true rfl) (fun r1 M1 hp1 => ?_)
  obtain ⟨rfl, hC1, hf1⟩ := hp1
  obtain ⟨hM1, h541⟩ := hq.C hf1
  obtain ⟨b1, fs1, e1⟩ := hM1.rc0
  refine lx_aload_n (pc := 485) dL_law_485 rfl ?_
  refine lx_aload_n (pc := 486) dL_law_486 rfl ?_
  refine lx_iload (pc := 487) dL_law_487 rfl ?_
  refine lx_iconst (pc := 489) (v := 1) dL_law_489 (by decide) ?_
  refine lx_iadd (pc := 490) dL_law_490 ?_
  refine lx_sld (pc := 491) dL_law_491 (lw_i1 hi hL) ?_
  refine lx_aload_n (pc := 492) dL_law_492 rfl ?_
  refine lx_iload (pc := 493) dL_law_493 rfl ?_
  refine lx_iconst (pc := 495) (v := 2) dL_law_495 (by decide) ?_
  refine lx_iadd (pc := 496) dL_law_496 ?_
  refine lx_sld (pc := 497) dL_law_497 (lw_i2 hi hL) ?_
  refine lx_invV (pc := 498) (As := [.int _, .int _]) (rest := [.int _]) b1 e1 rfl dL_law_498 cs_L_65 (oM_tie hM1) rfl rfl (Nat.le_of_ble_eq_true rfl) (Nat.le_of_ble_eq_true rfl) (fun r2 M2 hp2 => ?_)
  obtain ⟨rfl, hM2, hf2⟩ := hp2
  exact lx_icmp_eq (pc := 501) (tgt := 1140) dL_law_501 (by decide) (fun _ => K _ _ (lq.M hC1 h541 hM2 hf2)) (fun c => absurd rfl c)
theorem law_c8 {L i : Nat} {xs : Nat → Int32} {M : mm_Mem} {σ : g_st} {z : Nat × Nat} {Q : Option Value → mm_Mem → Prop} (hi : i + 6 ≤ L) (hL : L ≤ 3072) (hq : lq M σ) (K : ∀ M' σ', lq M' σ' → lx_X mL_law 40 (some (L, xs)) z 1140 (lw_ls i) [] M' Q) : lx_X mL_law 40 (some (L, xs)) z 506 (lw_ls i) [] M Q := by
  obtain ⟨hC, hM, f0, h54⟩ := id hq
  obtain ⟨b0, fs0, e0⟩ := hC.rc0
  refine lx_aload_n (pc := 506) dL_law_506 rfl ?_
  refine lx_aload_n (pc := 507) dL_law_507 rfl ?_
  refine lx_iload (pc := 508) dL_law_508 rfl ?_
  refine lx_iconst (pc := 510) (v := 1) dL_law_510 (by decide) ?_
  refine lx_iadd (pc := 511) dL_law_511 ?_
  refine lx_sld (pc := 512) dL_law_512 (lw_i1 hi hL) ?_
  refine lx_aload_n (pc := 513) dL_law_513 rfl ?_
  refine lx_iload (pc := 514) dL_law_514 rfl ?_
  refine lx_iconst (pc := 516) (v := 2) dL_law_516 (by decide) ?_
  refine lx_iadd (pc := 517) dL_law_517 ?_
  refine lx_sld (pc := 518) dL_law_518 (lw_i2 hi hL) ?_
  refine lx_invV (pc := 519) (As := [.int _, .int _]) (rest := []) b0 e0 rfl dL_law_519 cs_L_66 (oC_part hC) rfl rfl (Nat.le_of_ble_eq_true rfl) (Nat.le_of_ble_eq_true rfl) (fun r1 M1 hp1 => ?_)
  obtain ⟨rfl, hC1, hf1⟩ := hp1
  obtain ⟨hM1, h541⟩ := hq.C hf1
  obtain ⟨b1, fs1, e1⟩ := hM1.rc0
  refine lx_aload_n (pc := 522) dL_law_522 rfl ?_
  refine lx_aload_n (pc := 523) dL_law_523 rfl ?_
  refine lx_iload (pc := 524) dL_law_524 rfl ?_
  refine lx_iconst (pc := 526) (v := 1) dL_law_526 (by decide) ?_
  refine lx_iadd (pc := 527) dL_law_527 ?_
  refine lx_sld (pc := 528) dL_law_528 (lw_i1 hi hL) ?_
  refine lx_aload_n (pc := 529) dL_law_529 rfl ?_
  refine lx_iload (pc := 530) dL_law_530 rfl ?_
  refine lx_iconst (pc := 532) (v := 2) dL_law_532 (by decide) ?_
  refine lx_iadd (pc := 533) dL_law_533 ?_
  refine lx_sld (pc := 534) dL_law_534 (lw_i2 hi hL) ?_
  refine lx_invV (pc := 535) (As := [.int _, .int _]) (rest := [.int _]) b1 e1 rfl dL_law_535 cs_L_69 (oM_part hM1) rfl rfl (Nat.le_of_ble_eq_true rfl) (Nat.le_of_ble_eq_true rfl) (fun r2 M2 hp2 => ?_)
  obtain ⟨rfl, hM2, hf2⟩ := hp2
  exact lx_icmp_eq (pc := 538) (tgt := 1140) dL_law_538 (by decide) (fun _ => K _ _ (lq.M hC1 h541 hM2 hf2)) (fun c => absurd rfl c)
theorem law_c9 {L i : Nat} {xs : Nat → Int32} {M : mm_Mem} {σ : g_st} {z : Nat × Nat} {Q : Option Value → mm_Mem → Prop} (hi : i + 6 ≤ L) (hL : L ≤ 3072) (hq : lq M σ) (K : ∀ M' σ', lq M' σ' → lx_X mL_law 40 (some (L, xs)) z 1140 (lw_ls i) [] M' Q) : lx_X mL_law 40 (some (L, xs)) z 543 (lw_ls i) [] M Q := by
  obtain ⟨hC, hM, f0, h54⟩ := id hq
  obtain ⟨b0, fs0, e0⟩ := hC.rc0
  refine lx_aload_n (pc := 543) dL_law_543 rfl ?_
  refine lx_aload_n (pc := 544) dL_law_544 rfl ?_
  refine lx_iload (pc := 545) dL_law_545 rfl ?_
  refine lx_iconst (pc := 547) (v := 1) dL_law_547 (by decide) ?_
  refine lx_iadd (pc := 548) dL_law_548 ?_
  refine lx_sld (pc := 549) dL_law_549 (lw_i1 hi hL) ?_
  refine lx_invV (pc := 550) (As := [.int _]) (rest := []) b0 e0 rfl dL_law_550 cs_L_70 (oC_come hC) rfl rfl (Nat.le_of_ble_eq_true rfl) (Nat.le_of_ble_eq_true rfl) (fun r1 M1 hp1 => ?_)
  obtain ⟨rfl, hC1, hf1⟩ := hp1
  obtain ⟨hM1, h541⟩ := hq.C hf1
  obtain ⟨b1, fs1, e1⟩ := hM1.rc0
  refine lx_aload_n (pc := 553) dL_law_553 rfl ?_
  refine lx_aload_n (pc := 554) dL_law_554 rfl ?_
  refine lx_iload (pc := 555) dL_law_555 rfl ?_
  refine lx_iconst (pc := 557) (v := 1) dL_law_557 (by decide) ?_
  refine lx_iadd (pc := 558) dL_law_558 ?_
  refine lx_sld (pc := 559) dL_law_559 (lw_i1 hi hL) ?_
  refine lx_invV (pc := 560) (As := [.int _]) (rest := [.int _]) b1 e1 rfl dL_law_560 cs_L_73 (oM_come hM1) rfl rfl (Nat.le_of_ble_eq_true rfl) (Nat.le_of_ble_eq_true rfl) (fun r2 M2 hp2 => ?_)
  obtain ⟨rfl, hM2, hf2⟩ := hp2
  exact lx_icmp_eq (pc := 563) (tgt := 1140) dL_law_563 (by decide) (fun _ => K _ _ (lq.M hC1 h541 hM2 hf2)) (fun c => absurd rfl c)
theorem law_c10 {L i : Nat} {xs : Nat → Int32} {M : mm_Mem} {σ : g_st} {z : Nat × Nat} {Q : Option Value → mm_Mem → Prop} (hi : i + 6 ≤ L) (hL : L ≤ 3072) (hq : lq M σ) (K : ∀ M' σ', lq M' σ' → lx_X mL_law 40 (some (L, xs)) z 1140 (lw_ls i) [] M' Q) : lx_X mL_law 40 (some (L, xs)) z 568 (lw_ls i) [] M Q := by
  obtain ⟨hC, hM, f0, h54⟩ := id hq
  obtain ⟨b0, fs0, e0⟩ := hC.rc0
  refine lx_aload_n (pc := 568) dL_law_568 rfl ?_
  refine lx_aload_n (pc := 569) dL_law_569 rfl ?_
  refine lx_iload (pc := 570) dL_law_570 rfl ?_
  refine lx_iconst (pc := 572) (v := 1) dL_law_572 (by decide) ?_
  refine lx_iadd (pc := 573) dL_law_573 ?_
  refine lx_sld (pc := 574) dL_law_574 (lw_i1 hi hL) ?_
  refine lx_invV (pc := 575) (As := [.int _]) (rest := []) b0 e0 rfl dL_law_575 cs_L_74 (oC_go hC) rfl rfl (Nat.le_of_ble_eq_true rfl) (Nat.le_of_ble_eq_true rfl) (fun r1 M1 hp1 => ?_)
  obtain ⟨rfl, hC1, hf1⟩ := hp1
  obtain ⟨hM1, h541⟩ := hq.C hf1
  obtain ⟨b1, fs1, e1⟩ := hM1.rc0
  refine lx_aload_n (pc := 578) dL_law_578 rfl ?_
  refine lx_aload_n (pc := 579) dL_law_579 rfl ?_
  refine lx_iload (pc := 580) dL_law_580 rfl ?_
  refine lx_iconst (pc := 582) (v := 1) dL_law_582 (by decide) ?_
  refine lx_iadd (pc := 583) dL_law_583 ?_
  refine lx_sld (pc := 584) dL_law_584 (lw_i1 hi hL) ?_
  refine lx_invV (pc := 585) (As := [.int _]) (rest := [.int _]) b1 e1 rfl dL_law_585 cs_L_77 (oM_go hM1) rfl rfl (Nat.le_of_ble_eq_true rfl) (Nat.le_of_ble_eq_true rfl) (fun r2 M2 hp2 => ?_)
  obtain ⟨rfl, hM2, hf2⟩ := hp2
  exact lx_icmp_eq (pc := 588) (tgt := 1140) dL_law_588 (by decide) (fun _ => K _ _ (lq.M hC1 h541 hM2 hf2)) (fun c => absurd rfl c)
theorem law_c11 {L i : Nat} {xs : Nat → Int32} {M : mm_Mem} {σ : g_st} {z : Nat × Nat} {Q : Option Value → mm_Mem → Prop} (hi : i + 6 ≤ L) (hL : L ≤ 3072) (hq : lq M σ) (K : ∀ M' σ', lq M' σ' → lx_X mL_law 40 (some (L, xs)) z 1140 (lw_ls i) [] M' Q) : lx_X mL_law 40 (some (L, xs)) z 593 (lw_ls i) [] M Q := by
  obtain ⟨hC, hM, f0, h54⟩ := id hq
  obtain ⟨b0, fs0, e0⟩ := hC.rc0
  refine lx_aload_n (pc := 593) dL_law_593 rfl ?_
  refine lx_invV (pc := 594) (As := []) (rest := []) b0 e0 rfl dL_law_594 cs_L_78 (oC_covers hC) rfl rfl (Nat.le_of_ble_eq_true rfl) (Nat.le_of_ble_eq_true rfl) (fun r1 M1 hp1 => ?_)
  obtain ⟨rfl, hC1, hf1⟩ := hp1
  obtain ⟨hM1, h541⟩ := hq.C hf1
  obtain ⟨b1, fs1, e1⟩ := hM1.rc0
  refine lx_aload_n (pc := 597) dL_law_597 rfl ?_
  refine lx_invV (pc := 598) (As := []) (rest := [.int _]) b1 e1 rfl dL_law_598 cs_L_81 (oM_covers hM1) rfl rfl (Nat.le_of_ble_eq_true rfl) (Nat.le_of_ble_eq_true rfl) (fun r2 M2 hp2 => ?_)
  obtain ⟨rfl, hM2, hf2⟩ := hp2
  exact lx_icmp_eq (pc := 601) (tgt := 1140) dL_law_601 (by decide) (fun _ => K _ _ (lq.M hC1 h541 hM2 hf2)) (fun c => absurd rfl c)
theorem law_c12 {L i : Nat} {xs : Nat → Int32} {M : mm_Mem} {σ : g_st} {z : Nat × Nat} {Q : Option Value → mm_Mem → Prop} (hi : i + 6 ≤ L) (hL : L ≤ 3072) (hq : lq M σ) (K : ∀ M' σ', lq M' σ' → lx_X mL_law 40 (some (L, xs)) z 1140 (lw_ls i) [] M' Q) : lx_X mL_law 40 (some (L, xs)) z 606 (lw_ls i) [] M Q := by
  obtain ⟨hC, hM, f0, h54⟩ := id hq
  obtain ⟨b0, fs0, e0⟩ := hC.rc0
  refine lx_aload_n (pc := 606) dL_law_606 rfl ?_
  refine lx_invV (pc := 607) (As := []) (rest := []) b0 e0 rfl dL_law_607 cs_L_82 (oC_cliques hC) rfl rfl (Nat.le_of_ble_eq_true rfl) (Nat.le_of_ble_eq_true rfl) (fun r1 M1 hp1 => ?_)
  obtain ⟨rfl, hC1, hf1⟩ := hp1
  obtain ⟨hM1, h541⟩ := hq.C hf1
  obtain ⟨b1, fs1, e1⟩ := hM1.rc0
  refine lx_aload_n (pc := 610) dL_law_610 rfl ?_
  refine lx_invV (pc := 611) (As := []) (rest := [.int _]) b1 e1 rfl dL_law_611 cs_L_85 (oM_cliques hM1) rfl rfl (Nat.le_of_ble_eq_true rfl) (Nat.le_of_ble_eq_true rfl) (fun r2 M2 hp2 => ?_)
  obtain ⟨rfl, hM2, hf2⟩ := hp2
  exact lx_icmp_eq (pc := 614) (tgt := 1140) dL_law_614 (by decide) (fun _ => K _ _ (lq.M hC1 h541 hM2 hf2)) (fun c => absurd rfl c)
theorem law_c13 {L i : Nat} {xs : Nat → Int32} {M : mm_Mem} {σ : g_st} {z : Nat × Nat} {Q : Option Value → mm_Mem → Prop} (hi : i + 6 ≤ L) (hL : L ≤ 3072) (hq : lq M σ) (K : ∀ M' σ', lq M' σ' → lx_X mL_law 40 (some (L, xs)) z 1140 (lw_ls i) [] M' Q) : lx_X mL_law 40 (some (L, xs)) z 619 (lw_ls i) [] M Q := by
  obtain ⟨hC, hM, f0, h54⟩ := id hq
  obtain ⟨b0, fs0, e0⟩ := hC.rc0
  refine lx_aload_n (pc := 619) dL_law_619 rfl ?_
  refine lx_aload_n (pc := 620) dL_law_620 rfl ?_
  refine lx_iload (pc := 621) dL_law_621 rfl ?_
  refine lx_iconst (pc := 623) (v := 1) dL_law_623 (by decide) ?_
  refine lx_iadd (pc := 624) dL_law_624 ?_
  refine lx_sld (pc := 625) dL_law_625 (lw_i1 hi hL) ?_
  refine lx_invV (pc := 626) (As := [.int _]) (rest := []) b0 e0 rfl dL_law_626 cs_L_86 (oC_clique hC) rfl rfl (Nat.le_of_ble_eq_true rfl) (Nat.le_of_ble_eq_true rfl) (fun r1 M1 hp1 => ?_)
  obtain ⟨rfl, hC1, hf1⟩ := hp1
  obtain ⟨hM1, h541⟩ := hq.C hf1
  obtain ⟨b1, fs1, e1⟩ := hM1.rc0
  refine lx_aload_n (pc := 629) dL_law_629 rfl ?_
  refine lx_aload_n (pc := 630) dL_law_630 rfl ?_
  refine lx_iload (pc := 631) dL_law_631 rfl ?_
  refine lx_iconst (pc := 633) (v := 1) dL_law_633 (by decide) ?_
  refine lx_iadd (pc := 634) dL_law_634 ?_
  refine lx_sld (pc := 635) dL_law_635 (lw_i1 hi hL) ?_
  refine lx_invV (pc := 636) (As := [.int _]) (rest := [.int _]) b1 e1 rfl dL_law_636 cs_L_89 (oM_clique hM1) rfl rfl (Nat.le_of_ble_eq_true rfl) (Nat.le_of_ble_eq_true rfl) (fun r2 M2 hp2 => ?_)
  obtain ⟨rfl, hM2, hf2⟩ := hp2
  exact lx_icmp_eq (pc := 639) (tgt := 1140) dL_law_639 (by decide) (fun _ => K _ _ (lq.M hC1 h541 hM2 hf2)) (fun c => absurd rfl c)
theorem law_c14 {L i : Nat} {xs : Nat → Int32} {M : mm_Mem} {σ : g_st} {z : Nat × Nat} {Q : Option Value → mm_Mem → Prop} (hi : i + 6 ≤ L) (hL : L ≤ 3072) (hq : lq M σ) (K : ∀ M' σ', lq M' σ' → lx_X mL_law 40 (some (L, xs)) z 1140 (lw_ls i) [] M' Q) : lx_X mL_law 40 (some (L, xs)) z 644 (lw_ls i) [] M Q := by
  obtain ⟨hC, hM, f0, h54⟩ := id hq
  obtain ⟨b0, fs0, e0⟩ := hC.rc0
  refine lx_aload_n (pc := 644) dL_law_644 rfl ?_
  refine lx_aload_n (pc := 645) dL_law_645 rfl ?_
  refine lx_iload (pc := 646) dL_law_646 rfl ?_
  refine lx_iconst (pc := 648) (v := 1) dL_law_648 (by decide) ?_
  refine lx_iadd (pc := 649) dL_law_649 ?_
  refine lx_sld (pc := 650) dL_law_650 (lw_i1 hi hL) ?_
  refine lx_invV (pc := 651) (As := [.int _]) (rest := []) b0 e0 rfl dL_law_651 cs_L_90 (oC_root hC) rfl rfl (Nat.le_of_ble_eq_true rfl) (Nat.le_of_ble_eq_true rfl) (fun r1 M1 hp1 => ?_)
  obtain ⟨rfl, hC1, hf1⟩ := hp1
  obtain ⟨hM1, h541⟩ := hq.C hf1
  obtain ⟨b1, fs1, e1⟩ := hM1.rc0
  refine lx_aload_n (pc := 654) dL_law_654 rfl ?_
  refine lx_aload_n (pc := 655) dL_law_655 rfl ?_
  refine lx_iload (pc := 656) dL_law_656 rfl ?_
  refine lx_iconst (pc := 658) (v := 1) dL_law_658 (by decide) ?_
  refine lx_iadd (pc := 659) dL_law_659 ?_
  refine lx_sld (pc := 660) dL_law_660 (lw_i1 hi hL) ?_
  refine lx_invV (pc := 661) (As := [.int _]) (rest := [.int _]) b1 e1 rfl dL_law_661 cs_L_93 (oM_root hM1) rfl rfl (Nat.le_of_ble_eq_true rfl) (Nat.le_of_ble_eq_true rfl) (fun r2 M2 hp2 => ?_)
  obtain ⟨rfl, hM2, hf2⟩ := hp2
  exact lx_icmp_eq (pc := 664) (tgt := 1140) dL_law_664 (by decide) (fun _ => K _ _ (lq.M hC1 h541 hM2 hf2)) (fun c => absurd rfl c)
theorem law_c15 {L i : Nat} {xs : Nat → Int32} {M : mm_Mem} {σ : g_st} {z : Nat × Nat} {Q : Option Value → mm_Mem → Prop} (hi : i + 6 ≤ L) (hL : L ≤ 3072) (hq : lq M σ) (hzz : z.1 + 1 ≤ 601024 ∧ z.2 + 6 ≤ 7293034) (K : ∀ M' σ', lq M' σ' → lx_X mL_law 40 (some (L, xs)) (z.1 + 1, z.2 + 6) 1140 (lw_ls i) [] M' Q) : lx_X mL_law 40 (some (L, xs)) z 669 (lw_ls i) [] M Q := by
  obtain ⟨hC, hM, f0, h54⟩ := id hq
  obtain ⟨b0, fs0, e0⟩ := hC.rc0
  refine lx_aload_n (pc := 669) dL_law_669 rfl ?_
  refine lx_aload_n (pc := 670) dL_law_670 rfl ?_
  refine lx_iload (pc := 671) dL_law_671 rfl ?_
  refine lx_iconst (pc := 673) (v := 1) dL_law_673 (by decide) ?_
  refine lx_iadd (pc := 674) dL_law_674 ?_
  refine lx_sld (pc := 675) dL_law_675 (lw_i1 hi hL) ?_
  refine lx_aload_n (pc := 676) dL_law_676 rfl ?_
  refine lx_iload (pc := 677) dL_law_677 rfl ?_
  refine lx_iconst (pc := 679) (v := 2) dL_law_679 (by decide) ?_
  refine lx_iadd (pc := 680) dL_law_680 ?_
  refine lx_sld (pc := 681) dL_law_681 (lw_i2 hi hL) ?_
  refine lx_aload_n (pc := 682) dL_law_682 rfl ?_
  refine lx_invSW (pc := 683) (As := [.ref 0, .int _, .int _, .ref 54]) (rest := []) dL_law_683 lc_94 (lt_rootLine hC h54) rfl rfl (Nat.le_of_ble_eq_true rfl) (Nat.le_of_ble_eq_true rfl) hzz (fun r1 M1 hp1 => ?_)
  obtain ⟨rfl, hC1, hf1, f1, h54a, hv1⟩ := hp1
  obtain ⟨th, hT⟩ := hM
  have hM1 : MS M1 σ := ⟨th, hT.eq fun j hj1 hj2 => hf1 j hj1 (by omega)⟩
  obtain ⟨b1, fs1, e1⟩ := hM1.rc0
  refine lx_istore (pc := 686) dL_law_686 rfl ?_
  refine lx_aload_n (pc := 688) dL_law_688 rfl ?_
  refine lx_aload_n (pc := 689) dL_law_689 rfl ?_
  refine lx_iload (pc := 690) dL_law_690 rfl ?_
  refine lx_iconst (pc := 692) (v := 1) dL_law_692 (by decide) ?_
  refine lx_iadd (pc := 693) dL_law_693 ?_
  refine lx_sld (pc := 694) dL_law_694 (lw_i1 hi hL) ?_
  refine lx_aload_n (pc := 695) dL_law_695 rfl ?_
  refine lx_iload (pc := 696) dL_law_696 rfl ?_
  refine lx_iconst (pc := 698) (v := 2) dL_law_698 (by decide) ?_
  refine lx_iadd (pc := 699) dL_law_699 ?_
  refine lx_sld (pc := 700) dL_law_700 (lw_i2 hi hL) ?_
  refine lx_invV (pc := 701) (As := [.int _, .int _]) (rest := []) b1 e1 rfl dL_law_701 cs_L_96 (sM_rootLine hM1) rfl rfl (Nat.le_of_ble_eq_true rfl) (Nat.le_of_ble_eq_true rfl) (fun r2 M2 hp2 => ?_)
  obtain ⟨rfl, hT2, hf2⟩ := hp2
  obtain ⟨b2, fs2, e2⟩ := hT2.thr.rc
  refine lx_istore (pc := 704) dL_law_704 rfl ?_
  refine lx_aload_n (pc := 706) dL_law_706 rfl ?_
  refine lx_invV (pc := 707) (As := []) (rest := []) b2 e2 rfl dL_law_707 cs_L_55 (sX10_thrown hT2.thr) rfl rfl (Nat.le_of_ble_eq_true rfl) (Nat.le_of_ble_eq_true rfl) (fun r3 M3 hp3 => ?_)
  obtain ⟨rfl, rfl⟩ := hp3
  refine lx_iload (pc := 710) dL_law_710 rfl ?_
  refine lx_icmp_eq (pc := 712) (tgt := 717) dL_law_712 (by decide) (fun _ => ?_) (fun c => absurd rfl c)
  refine lx_iload (pc := 717) dL_law_717 rfl ?_
  have hq2 : lq M3 σ := lq.M hC1 ⟨f1, h54a⟩ ⟨_, hT2⟩ hf2
  have KE : ∀ ls, mm_wk ls (lw_ls i) → lx_X mL_law 40 (some (L, xs)) (z.1 + 1, z.2 + 6) 734 ls [] M3 Q := fun ls hw => lx_weak (lx_goto (pc := 734) (tgt := 1140) dL_law_734 (by decide) (K M3 σ hq2)) hw
  refine lx_if_ne (pc := 719) (tgt := 734) dL_law_719 (by decide) (fun _ => KE _ ⟨Or.inr rfl, Or.inr rfl, Or.inr rfl, Or.inr rfl, Or.inr rfl, Or.inl rfl, Or.inl rfl, trivial⟩) (fun cz => ?_)
  have h54b : mm_at M3 54 (mm_aJ 1 f1) := ⟨h54a.1, (hf2 54 (Or.inr (by decide))).trans h54a.2⟩
  obtain ⟨ov, eo⟩ : ∃ ov, o_rootLine σ (xs (nI i + 1).toNatClampNeg) (xs (nI i + 2).toNatClampNeg) = some ov := by
    cases eo : o_rootLine σ (xs (nI i + 1).toNatClampNeg) (xs (nI i + 2).toNatClampNeg) with
    | some ov => exact ⟨ov, rfl⟩
    | none => rw [if_pos eo] at cz; exact absurd cz (by decide)
  refine lx_aload_n (pc := 722) dL_law_722 rfl ?_
  refine lx_iconst (pc := 723) (v := 0) dL_law_723 (by decide) ?_
  refine lx_lald (pc := 724) dL_law_724 h54b.1 h54b.2 lt_in ?_
  refine lx_iload (pc := 725) dL_law_725 rfl ?_
  refine lx_i2l (pc := 727) dL_law_727 ?_
  refine lx_lcmp (pc := 728) dL_law_728 ?_
  exact lx_if_eq (pc := 729) (tgt := 734) dL_law_729 (by decide) (fun _ => KE _ ⟨Or.inr rfl, Or.inr rfl, Or.inr rfl, Or.inr rfl, Or.inr rfl, Or.inl rfl, Or.inl rfl, trivial⟩) (fun c => absurd (lw_cmp0 (by rw [eo]; exact hv1 ov eo)) c)
theorem law_c16 {L i : Nat} {xs : Nat → Int32} {M : mm_Mem} {σ : g_st} {z : Nat × Nat} {Q : Option Value → mm_Mem → Prop} (hi : i + 6 ≤ L) (hL : L ≤ 3072) (hq : lq M σ) (K : ∀ M' σ', lq M' σ' → lx_X mL_law 40 (some (L, xs)) z 1140 (lw_ls i) [] M' Q) : lx_X mL_law 40 (some (L, xs)) z 737 (lw_ls i) [] M Q := by
  obtain ⟨hC, hM, f0, h54⟩ := id hq
  obtain ⟨b0, fs0, e0⟩ := hC.rc0
  refine lx_aload_n (pc := 737) dL_law_737 rfl ?_
  refine lx_invV (pc := 738) (As := []) (rest := []) b0 e0 rfl dL_law_738 cs_L_97 (oC_piece hC) rfl rfl (Nat.le_of_ble_eq_true rfl) (Nat.le_of_ble_eq_true rfl) (fun r1 M1 hp1 => ?_)
  obtain ⟨rfl, hC1, hf1⟩ := hp1
  obtain ⟨hM1, h541⟩ := hq.C hf1
  obtain ⟨b1, fs1, e1⟩ := hM1.rc0
  refine lx_aload_n (pc := 741) dL_law_741 rfl ?_
  refine lx_invV (pc := 742) (As := []) (rest := [.int _]) b1 e1 rfl dL_law_742 cs_L_100 (oM_piece hM1) rfl rfl (Nat.le_of_ble_eq_true rfl) (Nat.le_of_ble_eq_true rfl) (fun r2 M2 hp2 => ?_)
  obtain ⟨rfl, hM2, hf2⟩ := hp2
  exact lx_icmp_eq (pc := 745) (tgt := 1140) dL_law_745 (by decide) (fun _ => K _ _ (lq.M hC1 h541 hM2 hf2)) (fun c => absurd rfl c)
theorem law_c17 {L i : Nat} {xs : Nat → Int32} {M : mm_Mem} {σ : g_st} {z : Nat × Nat} {Q : Option Value → mm_Mem → Prop} (hi : i + 6 ≤ L) (hL : L ≤ 3072) (hq : lq M σ) (K : ∀ M' σ', lq M' σ' → lx_X mL_law 40 (some (L, xs)) z 1140 (lw_ls i) [] M' Q) : lx_X mL_law 40 (some (L, xs)) z 750 (lw_ls i) [] M Q := by
  obtain ⟨hC, hM, f0, h54⟩ := id hq
  obtain ⟨b0, fs0, e0⟩ := hC.rc0
  refine lx_aload_n (pc := 750) dL_law_750 rfl ?_
  refine lx_invV (pc := 751) (As := []) (rest := []) b0 e0 rfl dL_law_751 cs_L_101 (oC_pieces hC) rfl rfl (Nat.le_of_ble_eq_true rfl) (Nat.le_of_ble_eq_true rfl) (fun r1 M1 hp1 => ?_)
  obtain ⟨rfl, hC1, hf1⟩ := hp1
  obtain ⟨hM1, h541⟩ := hq.C hf1
  obtain ⟨b1, fs1, e1⟩ := hM1.rc0
  refine lx_aload_n (pc := 754) dL_law_754 rfl ?_
  refine lx_invV (pc := 755) (As := []) (rest := [.int _]) b1 e1 rfl dL_law_755 cs_L_104 (oM_pieces hM1) rfl rfl (Nat.le_of_ble_eq_true rfl) (Nat.le_of_ble_eq_true rfl) (fun r2 M2 hp2 => ?_)
  obtain ⟨rfl, hM2, hf2⟩ := hp2
  exact lx_icmp_eq (pc := 758) (tgt := 1140) dL_law_758 (by decide) (fun _ => K _ _ (lq.M hC1 h541 hM2 hf2)) (fun c => absurd rfl c)
theorem law_c18 {L i : Nat} {xs : Nat → Int32} {M : mm_Mem} {σ : g_st} {z : Nat × Nat} {Q : Option Value → mm_Mem → Prop} (hi : i + 6 ≤ L) (hL : L ≤ 3072) (hq : lq M σ) (K : ∀ M' σ', lq M' σ' → lx_X mL_law 40 (some (L, xs)) z 1140 (lw_ls i) [] M' Q) : lx_X mL_law 40 (some (L, xs)) z 763 (lw_ls i) [] M Q := by
  obtain ⟨hC, hM, f0, h54⟩ := id hq
  obtain ⟨b0, fs0, e0⟩ := hC.rc0
  refine lx_aload_n (pc := 763) dL_law_763 rfl ?_
  refine lx_aload_n (pc := 764) dL_law_764 rfl ?_
  refine lx_iload (pc := 765) dL_law_765 rfl ?_
  refine lx_iconst (pc := 767) (v := 1) dL_law_767 (by decide) ?_
  refine lx_iadd (pc := 768) dL_law_768 ?_
  refine lx_sld (pc := 769) dL_law_769 (lw_i1 hi hL) ?_
  refine lx_invV (pc := 770) (As := [.int _]) (rest := []) b0 e0 rfl dL_law_770 cs_L_105 (oC_blamed hC) rfl rfl (Nat.le_of_ble_eq_true rfl) (Nat.le_of_ble_eq_true rfl) (fun r1 M1 hp1 => ?_)
  obtain ⟨rfl, hC1, hf1⟩ := hp1
  obtain ⟨hM1, h541⟩ := hq.C hf1
  obtain ⟨b1, fs1, e1⟩ := hM1.rc0
  refine lx_aload_n (pc := 773) dL_law_773 rfl ?_
  refine lx_aload_n (pc := 774) dL_law_774 rfl ?_
  refine lx_iload (pc := 775) dL_law_775 rfl ?_
  refine lx_iconst (pc := 777) (v := 1) dL_law_777 (by decide) ?_
  refine lx_iadd (pc := 778) dL_law_778 ?_
  refine lx_sld (pc := 779) dL_law_779 (lw_i1 hi hL) ?_
  refine lx_invV (pc := 780) (As := [.int _]) (rest := [.int _]) b1 e1 rfl dL_law_780 cs_L_108 (oM_blamed hM1) rfl rfl (Nat.le_of_ble_eq_true rfl) (Nat.le_of_ble_eq_true rfl) (fun r2 M2 hp2 => ?_)
  obtain ⟨rfl, hM2, hf2⟩ := hp2
  exact lx_icmp_eq (pc := 783) (tgt := 1140) dL_law_783 (by decide) (fun _ => K _ _ (lq.M hC1 h541 hM2 hf2)) (fun c => absurd rfl c)
theorem law_c19 {L i : Nat} {xs : Nat → Int32} {M : mm_Mem} {σ : g_st} {z : Nat × Nat} {Q : Option Value → mm_Mem → Prop} (hi : i + 6 ≤ L) (hL : L ≤ 3072) (hq : lq M σ) (K : ∀ M' σ', lq M' σ' → lx_X mL_law 40 (some (L, xs)) z 1140 (lw_ls i) [] M' Q) : lx_X mL_law 40 (some (L, xs)) z 788 (lw_ls i) [] M Q := by
  obtain ⟨hC, hM, f0, h54⟩ := id hq
  obtain ⟨b0, fs0, e0⟩ := hC.rc0
  refine lx_aload_n (pc := 788) dL_law_788 rfl ?_
  refine lx_aload_n (pc := 789) dL_law_789 rfl ?_
  refine lx_iload (pc := 790) dL_law_790 rfl ?_
  refine lx_iconst (pc := 792) (v := 1) dL_law_792 (by decide) ?_
  refine lx_iadd (pc := 793) dL_law_793 ?_
  refine lx_sld (pc := 794) dL_law_794 (lw_i1 hi hL) ?_
  refine lx_aload_n (pc := 795) dL_law_795 rfl ?_
  refine lx_iload (pc := 796) dL_law_796 rfl ?_
  refine lx_iconst (pc := 798) (v := 2) dL_law_798 (by decide) ?_
  refine lx_iadd (pc := 799) dL_law_799 ?_
  refine lx_sld (pc := 800) dL_law_800 (lw_i2 hi hL) ?_
  refine lx_aload_n (pc := 801) dL_law_801 rfl ?_
  refine lx_iload (pc := 802) dL_law_802 rfl ?_
  refine lx_iconst (pc := 804) (v := 3) dL_law_804 (by decide) ?_
  refine lx_iadd (pc := 805) dL_law_805 ?_
  refine lx_sld (pc := 806) dL_law_806 (lw_i3 hi hL) ?_
  refine lx_invV (pc := 807) (As := [.int _, .int _, .int _]) (rest := []) b0 e0 rfl dL_law_807 cs_L_109 (oC_odd hC) rfl rfl (Nat.le_of_ble_eq_true rfl) (Nat.le_of_ble_eq_true rfl) (fun r1 M1 hp1 => ?_)
  obtain ⟨rfl, hC1, hf1⟩ := hp1
  obtain ⟨hM1, h541⟩ := hq.C hf1
  obtain ⟨b1, fs1, e1⟩ := hM1.rc0
  refine lx_aload_n (pc := 810) dL_law_810 rfl ?_
  refine lx_aload_n (pc := 811) dL_law_811 rfl ?_
  refine lx_iload (pc := 812) dL_law_812 rfl ?_
  refine lx_iconst (pc := 814) (v := 1) dL_law_814 (by decide) ?_
  refine lx_iadd (pc := 815) dL_law_815 ?_
  refine lx_sld (pc := 816) dL_law_816 (lw_i1 hi hL) ?_
  refine lx_aload_n (pc := 817) dL_law_817 rfl ?_
  refine lx_iload (pc := 818) dL_law_818 rfl ?_
  refine lx_iconst (pc := 820) (v := 2) dL_law_820 (by decide) ?_
  refine lx_iadd (pc := 821) dL_law_821 ?_
  refine lx_sld (pc := 822) dL_law_822 (lw_i2 hi hL) ?_
  refine lx_aload_n (pc := 823) dL_law_823 rfl ?_
  refine lx_iload (pc := 824) dL_law_824 rfl ?_
  refine lx_iconst (pc := 826) (v := 3) dL_law_826 (by decide) ?_
  refine lx_iadd (pc := 827) dL_law_827 ?_
  refine lx_sld (pc := 828) dL_law_828 (lw_i3 hi hL) ?_
  refine lx_invV (pc := 829) (As := [.int _, .int _, .int _]) (rest := [.int _]) b1 e1 rfl dL_law_829 cs_L_113 (oM_odd hM1) rfl rfl (Nat.le_of_ble_eq_true rfl) (Nat.le_of_ble_eq_true rfl) (fun r2 M2 hp2 => ?_)
  obtain ⟨rfl, hM2, hf2⟩ := hp2
  exact lx_icmp_eq (pc := 832) (tgt := 1140) dL_law_832 (by decide) (fun _ => K _ _ (lq.M hC1 h541 hM2 hf2)) (fun c => absurd rfl c)
theorem law_c20 {L i : Nat} {xs : Nat → Int32} {M : mm_Mem} {σ : g_st} {z : Nat × Nat} {Q : Option Value → mm_Mem → Prop} (hi : i + 6 ≤ L) (hL : L ≤ 3072) (hq : lq M σ) (K : ∀ M' σ', lq M' σ' → lx_X mL_law 40 (some (L, xs)) z 1140 (lw_ls i) [] M' Q) : lx_X mL_law 40 (some (L, xs)) z 837 (lw_ls i) [] M Q := by
  obtain ⟨hC, hM, f0, h54⟩ := id hq
  obtain ⟨b0, fs0, e0⟩ := hC.rc0
  refine lx_aload_n (pc := 837) dL_law_837 rfl ?_
  refine lx_invV (pc := 838) (As := []) (rest := []) b0 e0 rfl dL_law_838 cs_L_114 (oC_claw hC) rfl rfl (Nat.le_of_ble_eq_true rfl) (Nat.le_of_ble_eq_true rfl) (fun r1 M1 hp1 => ?_)
  obtain ⟨rfl, hC1, hf1⟩ := hp1
  obtain ⟨hM1, h541⟩ := hq.C hf1
  obtain ⟨b1, fs1, e1⟩ := hM1.rc0
  refine lx_aload_n (pc := 841) dL_law_841 rfl ?_
  refine lx_invV (pc := 842) (As := []) (rest := [.int _]) b1 e1 rfl dL_law_842 cs_L_117 (oM_claw hM1) rfl rfl (Nat.le_of_ble_eq_true rfl) (Nat.le_of_ble_eq_true rfl) (fun r2 M2 hp2 => ?_)
  obtain ⟨rfl, hM2, hf2⟩ := hp2
  exact lx_icmp_eq (pc := 845) (tgt := 1140) dL_law_845 (by decide) (fun _ => K _ _ (lq.M hC1 h541 hM2 hf2)) (fun c => absurd rfl c)
theorem law_c21 {L i : Nat} {xs : Nat → Int32} {M : mm_Mem} {σ : g_st} {z : Nat × Nat} {Q : Option Value → mm_Mem → Prop} (hi : i + 6 ≤ L) (hL : L ≤ 3072) (hq : lq M σ) (K : ∀ M' σ', lq M' σ' → lx_X mL_law 40 (some (L, xs)) z 1140 (lw_ls i) [] M' Q) : lx_X mL_law 40 (some (L, xs)) z 850 (lw_ls i) [] M Q := by
  obtain ⟨hC, hM, f0, h54⟩ := id hq
  obtain ⟨b0, fs0, e0⟩ := hC.rc0
  refine lx_aload_n (pc := 850) dL_law_850 rfl ?_
  refine lx_invV (pc := 851) (As := []) (rest := []) b0 e0 rfl dL_law_851 cs_L_118 (oC_meet hC) rfl rfl (Nat.le_of_ble_eq_true rfl) (Nat.le_of_ble_eq_true rfl) (fun r1 M1 hp1 => ?_)
  obtain ⟨rfl, hC1, hf1⟩ := hp1
  obtain ⟨hM1, h541⟩ := hq.C hf1
  obtain ⟨b1, fs1, e1⟩ := hM1.rc0
  refine lx_aload_n (pc := 854) dL_law_854 rfl ?_
  refine lx_invV (pc := 855) (As := []) (rest := [.int _]) b1 e1 rfl dL_law_855 cs_L_121 (oM_meet hM1) rfl rfl (Nat.le_of_ble_eq_true rfl) (Nat.le_of_ble_eq_true rfl) (fun r2 M2 hp2 => ?_)
  obtain ⟨rfl, hM2, hf2⟩ := hp2
  exact lx_icmp_eq (pc := 858) (tgt := 1140) dL_law_858 (by decide) (fun _ => K _ _ (lq.M hC1 h541 hM2 hf2)) (fun c => absurd rfl c)
theorem law_c22 {L i : Nat} {xs : Nat → Int32} {M : mm_Mem} {σ : g_st} {z : Nat × Nat} {Q : Option Value → mm_Mem → Prop} (hi : i + 6 ≤ L) (hL : L ≤ 3072) (hq : lq M σ) (K : ∀ M' σ', lq M' σ' → lx_X mL_law 40 (some (L, xs)) z 1140 (lw_ls i) [] M' Q) : lx_X mL_law 40 (some (L, xs)) z 863 (lw_ls i) [] M Q := by
  obtain ⟨hC, hM, f0, h54⟩ := id hq
  obtain ⟨b0, fs0, e0⟩ := hC.rc0
  refine lx_aload_n (pc := 863) dL_law_863 rfl ?_
  refine lx_invV (pc := 864) (As := []) (rest := []) b0 e0 rfl dL_law_864 cs_L_122 (oC_back hC) rfl rfl (Nat.le_of_ble_eq_true rfl) (Nat.le_of_ble_eq_true rfl) (fun r1 M1 hp1 => ?_)
  obtain ⟨rfl, hC1, hf1⟩ := hp1
  obtain ⟨hM1, h541⟩ := hq.C hf1
  obtain ⟨b1, fs1, e1⟩ := hM1.rc0
  refine lx_aload_n (pc := 867) dL_law_867 rfl ?_
  refine lx_invV (pc := 868) (As := []) (rest := [.int _]) b1 e1 rfl dL_law_868 cs_L_125 (oM_back hM1) rfl rfl (Nat.le_of_ble_eq_true rfl) (Nat.le_of_ble_eq_true rfl) (fun r2 M2 hp2 => ?_)
  obtain ⟨rfl, hM2, hf2⟩ := hp2
  exact lx_icmp_eq (pc := 871) (tgt := 1140) dL_law_871 (by decide) (fun _ => K _ _ (lq.M hC1 h541 hM2 hf2)) (fun c => absurd rfl c)
theorem law_c23 {L i : Nat} {xs : Nat → Int32} {M : mm_Mem} {σ : g_st} {z : Nat × Nat} {Q : Option Value → mm_Mem → Prop} (hi : i + 6 ≤ L) (hL : L ≤ 3072) (hq : lq M σ) (K : ∀ M' σ', lq M' σ' → lx_X mL_law 40 (some (L, xs)) z 1140 (lw_ls i) [] M' Q) : lx_X mL_law 40 (some (L, xs)) z 876 (lw_ls i) [] M Q := by
  obtain ⟨hC, hM, f0, h54⟩ := id hq
  obtain ⟨b0, fs0, e0⟩ := hC.rc0
  refine lx_aload_n (pc := 876) dL_law_876 rfl ?_
  refine lx_invV (pc := 877) (As := []) (rest := []) b0 e0 rfl dL_law_877 cs_L_126 (oC_depth hC) rfl rfl (Nat.le_of_ble_eq_true rfl) (Nat.le_of_ble_eq_true rfl) (fun r1 M1 hp1 => ?_)
  obtain ⟨rfl, hC1, hf1⟩ := hp1
  obtain ⟨hM1, h541⟩ := hq.C hf1
  obtain ⟨b1, fs1, e1⟩ := hM1.rc0
  refine lx_aload_n (pc := 880) dL_law_880 rfl ?_
  refine lx_invV (pc := 881) (As := []) (rest := [.int _]) b1 e1 rfl dL_law_881 cs_L_129 (oM_depth hM1) rfl rfl (Nat.le_of_ble_eq_true rfl) (Nat.le_of_ble_eq_true rfl) (fun r2 M2 hp2 => ?_)
  obtain ⟨rfl, hM2, hf2⟩ := hp2
  exact lx_icmp_eq (pc := 884) (tgt := 1140) dL_law_884 (by decide) (fun _ => K _ _ (lq.M hC1 h541 hM2 hf2)) (fun c => absurd rfl c)
theorem law_c24 {L i : Nat} {xs : Nat → Int32} {M : mm_Mem} {σ : g_st} {z : Nat × Nat} {Q : Option Value → mm_Mem → Prop} (hi : i + 6 ≤ L) (hL : L ≤ 3072) (hq : lq M σ) (K : ∀ M' σ', lq M' σ' → lx_X mL_law 40 (some (L, xs)) z 1140 (lw_ls i) [] M' Q) : lx_X mL_law 40 (some (L, xs)) z 889 (lw_ls i) [] M Q := by
  obtain ⟨hC, hM, f0, h54⟩ := id hq
  obtain ⟨b0, fs0, e0⟩ := hC.rc0
  refine lx_aload_n (pc := 889) dL_law_889 rfl ?_
  refine lx_aload_n (pc := 890) dL_law_890 rfl ?_
  refine lx_iload (pc := 891) dL_law_891 rfl ?_
  refine lx_iconst (pc := 893) (v := 1) dL_law_893 (by decide) ?_
  refine lx_iadd (pc := 894) dL_law_894 ?_
  refine lx_sld (pc := 895) dL_law_895 (lw_i1 hi hL) ?_
  refine lx_invV (pc := 896) (As := [.int _]) (rest := []) b0 e0 rfl dL_law_896 cs_L_130 (oC_mending hC) rfl rfl (Nat.le_of_ble_eq_true rfl) (Nat.le_of_ble_eq_true rfl) (fun r1 M1 hp1 => ?_)
  obtain ⟨rfl, hC1, hf1⟩ := hp1
  obtain ⟨hM1, h541⟩ := hq.C hf1
  obtain ⟨b1, fs1, e1⟩ := hM1.rc0
  refine lx_aload_n (pc := 899) dL_law_899 rfl ?_
  refine lx_aload_n (pc := 900) dL_law_900 rfl ?_
  refine lx_iload (pc := 901) dL_law_901 rfl ?_
  refine lx_iconst (pc := 903) (v := 1) dL_law_903 (by decide) ?_
  refine lx_iadd (pc := 904) dL_law_904 ?_
  refine lx_sld (pc := 905) dL_law_905 (lw_i1 hi hL) ?_
  refine lx_invV (pc := 906) (As := [.int _]) (rest := [.int _]) b1 e1 rfl dL_law_906 cs_L_133 (oM_mending hM1) rfl rfl (Nat.le_of_ble_eq_true rfl) (Nat.le_of_ble_eq_true rfl) (fun r2 M2 hp2 => ?_)
  obtain ⟨rfl, hM2, hf2⟩ := hp2
  exact lx_icmp_eq (pc := 909) (tgt := 1140) dL_law_909 (by decide) (fun _ => K _ _ (lq.M hC1 h541 hM2 hf2)) (fun c => absurd rfl c)
theorem law_c25 {L i : Nat} {xs : Nat → Int32} {M : mm_Mem} {σ : g_st} {z : Nat × Nat} {Q : Option Value → mm_Mem → Prop} (hi : i + 6 ≤ L) (hL : L ≤ 3072) (hq : lq M σ) (K : ∀ M' σ', lq M' σ' → lx_X mL_law 40 (some (L, xs)) z 1140 (lw_ls i) [] M' Q) : lx_X mL_law 40 (some (L, xs)) z 914 (lw_ls i) [] M Q := by
  obtain ⟨hC, hM, f0, h54⟩ := id hq
  obtain ⟨b0, fs0, e0⟩ := hC.rc0
  refine lx_aload_n (pc := 914) dL_law_914 rfl ?_
  refine lx_aload_n (pc := 915) dL_law_915 rfl ?_
  refine lx_iload (pc := 916) dL_law_916 rfl ?_
  refine lx_iconst (pc := 918) (v := 1) dL_law_918 (by decide) ?_
  refine lx_iadd (pc := 919) dL_law_919 ?_
  refine lx_sld (pc := 920) dL_law_920 (lw_i1 hi hL) ?_
  refine lx_invV (pc := 921) (As := [.int _]) (rest := []) b0 e0 rfl dL_law_921 cs_L_134 (oC_may hC) rfl rfl (Nat.le_of_ble_eq_true rfl) (Nat.le_of_ble_eq_true rfl) (fun r1 M1 hp1 => ?_)
  obtain ⟨rfl, hC1, hf1⟩ := hp1
  obtain ⟨hM1, h541⟩ := hq.C hf1
  obtain ⟨b1, fs1, e1⟩ := hM1.rc0
  refine lx_aload_n (pc := 924) dL_law_924 rfl ?_
  refine lx_aload_n (pc := 925) dL_law_925 rfl ?_
  refine lx_iload (pc := 926) dL_law_926 rfl ?_
  refine lx_iconst (pc := 928) (v := 1) dL_law_928 (by decide) ?_
  refine lx_iadd (pc := 929) dL_law_929 ?_
  refine lx_sld (pc := 930) dL_law_930 (lw_i1 hi hL) ?_
  refine lx_invV (pc := 931) (As := [.int _]) (rest := [.int _]) b1 e1 rfl dL_law_931 cs_L_137 (oM_may hM1) rfl rfl (Nat.le_of_ble_eq_true rfl) (Nat.le_of_ble_eq_true rfl) (fun r2 M2 hp2 => ?_)
  obtain ⟨rfl, hM2, hf2⟩ := hp2
  exact lx_icmp_eq (pc := 934) (tgt := 1140) dL_law_934 (by decide) (fun _ => K _ _ (lq.M hC1 h541 hM2 hf2)) (fun c => absurd rfl c)
theorem law_c26 {L i : Nat} {xs : Nat → Int32} {M : mm_Mem} {σ : g_st} {z : Nat × Nat} {Q : Option Value → mm_Mem → Prop} (hi : i + 6 ≤ L) (hL : L ≤ 3072) (hq : lq M σ) (K : ∀ M' σ', lq M' σ' → lx_X mL_law 40 (some (L, xs)) z 1140 (lw_ls i) [] M' Q) : lx_X mL_law 40 (some (L, xs)) z 939 (lw_ls i) [] M Q := by
  obtain ⟨hC, hM, f0, h54⟩ := id hq
  obtain ⟨b0, fs0, e0⟩ := hC.rc0
  refine lx_aload_n (pc := 939) dL_law_939 rfl ?_
  refine lx_invV (pc := 940) (As := []) (rest := []) b0 e0 rfl dL_law_940 cs_L_138 (oC_mays hC) rfl rfl (Nat.le_of_ble_eq_true rfl) (Nat.le_of_ble_eq_true rfl) (fun r1 M1 hp1 => ?_)
  obtain ⟨rfl, hC1, hf1⟩ := hp1
  obtain ⟨hM1, h541⟩ := hq.C hf1
  obtain ⟨b1, fs1, e1⟩ := hM1.rc0
  refine lx_aload_n (pc := 943) dL_law_943 rfl ?_
  refine lx_invV (pc := 944) (As := []) (rest := [.int _]) b1 e1 rfl dL_law_944 cs_L_141 (oM_mays hM1) rfl rfl (Nat.le_of_ble_eq_true rfl) (Nat.le_of_ble_eq_true rfl) (fun r2 M2 hp2 => ?_)
  obtain ⟨rfl, hM2, hf2⟩ := hp2
  exact lx_icmp_eq (pc := 947) (tgt := 1140) dL_law_947 (by decide) (fun _ => K _ _ (lq.M hC1 h541 hM2 hf2)) (fun c => absurd rfl c)
theorem law_c27 {L i : Nat} {xs : Nat → Int32} {M : mm_Mem} {σ : g_st} {z : Nat × Nat} {Q : Option Value → mm_Mem → Prop} (hi : i + 6 ≤ L) (hL : L ≤ 3072) (hq : lq M σ) (K : ∀ M' σ', lq M' σ' → lx_X mL_law 40 (some (L, xs)) z 1140 (lw_ls i) [] M' Q) : lx_X mL_law 40 (some (L, xs)) z 952 (lw_ls i) [] M Q := by
  obtain ⟨hC, hM, f0, h54⟩ := id hq
  obtain ⟨b0, fs0, e0⟩ := hC.rc0
  refine lx_aload_n (pc := 952) dL_law_952 rfl ?_
  refine lx_invV (pc := 953) (As := []) (rest := []) b0 e0 rfl dL_law_953 cs_L_142 (oC_colours hC) rfl rfl (Nat.le_of_ble_eq_true rfl) (Nat.le_of_ble_eq_true rfl) (fun r1 M1 hp1 => ?_)
  obtain ⟨rfl, hC1, hf1⟩ := hp1
  obtain ⟨hM1, h541⟩ := hq.C hf1
  obtain ⟨b1, fs1, e1⟩ := hM1.rc0
  refine lx_aload_n (pc := 956) dL_law_956 rfl ?_
  refine lx_invV (pc := 957) (As := []) (rest := [.int _]) b1 e1 rfl dL_law_957 cs_L_145 (oM_colours hM1) rfl rfl (Nat.le_of_ble_eq_true rfl) (Nat.le_of_ble_eq_true rfl) (fun r2 M2 hp2 => ?_)
  obtain ⟨rfl, hM2, hf2⟩ := hp2
  exact lx_icmp_eq (pc := 960) (tgt := 1140) dL_law_960 (by decide) (fun _ => K _ _ (lq.M hC1 h541 hM2 hf2)) (fun c => absurd rfl c)
theorem law_c28 {L i : Nat} {xs : Nat → Int32} {M : mm_Mem} {σ : g_st} {z : Nat × Nat} {Q : Option Value → mm_Mem → Prop} (hi : i + 6 ≤ L) (hL : L ≤ 3072) (hq : lq M σ) (K : ∀ M' σ', lq M' σ' → lx_X mL_law 40 (some (L, xs)) z 1140 (lw_ls i) [] M' Q) : lx_X mL_law 40 (some (L, xs)) z 965 (lw_ls i) [] M Q := by
  obtain ⟨hC, hM, f0, h54⟩ := id hq
  obtain ⟨b0, fs0, e0⟩ := hC.rc0
  refine lx_aload_n (pc := 965) dL_law_965 rfl ?_
  refine lx_aload_n (pc := 966) dL_law_966 rfl ?_
  refine lx_iload (pc := 967) dL_law_967 rfl ?_
  refine lx_iconst (pc := 969) (v := 1) dL_law_969 (by decide) ?_
  refine lx_iadd (pc := 970) dL_law_970 ?_
  refine lx_sld (pc := 971) dL_law_971 (lw_i1 hi hL) ?_
  refine lx_invV (pc := 972) (As := [.int _]) (rest := []) b0 e0 rfl dL_law_972 cs_L_146 (oC_colourAt hC) rfl rfl (Nat.le_of_ble_eq_true rfl) (Nat.le_of_ble_eq_true rfl) (fun r1 M1 hp1 => ?_)
  obtain ⟨rfl, hC1, hf1⟩ := hp1
  obtain ⟨hM1, h541⟩ := hq.C hf1
  obtain ⟨b1, fs1, e1⟩ := hM1.rc0
  refine lx_aload_n (pc := 975) dL_law_975 rfl ?_
  refine lx_aload_n (pc := 976) dL_law_976 rfl ?_
  refine lx_iload (pc := 977) dL_law_977 rfl ?_
  refine lx_iconst (pc := 979) (v := 1) dL_law_979 (by decide) ?_
  refine lx_iadd (pc := 980) dL_law_980 ?_
  refine lx_sld (pc := 981) dL_law_981 (lw_i1 hi hL) ?_
  refine lx_invV (pc := 982) (As := [.int _]) (rest := [.int _]) b1 e1 rfl dL_law_982 cs_L_149 (oM_colourAt hM1) rfl rfl (Nat.le_of_ble_eq_true rfl) (Nat.le_of_ble_eq_true rfl) (fun r2 M2 hp2 => ?_)
  obtain ⟨rfl, hM2, hf2⟩ := hp2
  exact lx_icmp_eq (pc := 985) (tgt := 1140) dL_law_985 (by decide) (fun _ => K _ _ (lq.M hC1 h541 hM2 hf2)) (fun c => absurd rfl c)
theorem law_c29 {L i : Nat} {xs : Nat → Int32} {M : mm_Mem} {σ : g_st} {z : Nat × Nat} {Q : Option Value → mm_Mem → Prop} (hi : i + 6 ≤ L) (hL : L ≤ 3072) (hq : lq M σ) (K : ∀ M' σ', lq M' σ' → lx_X mL_law 40 (some (L, xs)) z 1140 (lw_ls i) [] M' Q) : lx_X mL_law 40 (some (L, xs)) z 990 (lw_ls i) [] M Q := by
  obtain ⟨hC, hM, f0, h54⟩ := id hq
  obtain ⟨b0, fs0, e0⟩ := hC.rc0
  refine lx_aload_n (pc := 990) dL_law_990 rfl ?_
  refine lx_aload_n (pc := 991) dL_law_991 rfl ?_
  refine lx_iload (pc := 992) dL_law_992 rfl ?_
  refine lx_iconst (pc := 994) (v := 1) dL_law_994 (by decide) ?_
  refine lx_iadd (pc := 995) dL_law_995 ?_
  refine lx_sld (pc := 996) dL_law_996 (lw_i1 hi hL) ?_
  refine lx_invV (pc := 997) (As := [.int _]) (rest := []) b0 e0 rfl dL_law_997 cs_L_150 (oC_apart hC) rfl rfl (Nat.le_of_ble_eq_true rfl) (Nat.le_of_ble_eq_true rfl) (fun r1 M1 hp1 => ?_)
  obtain ⟨rfl, hC1, hf1⟩ := hp1
  obtain ⟨hM1, h541⟩ := hq.C hf1
  obtain ⟨b1, fs1, e1⟩ := hM1.rc0
  refine lx_aload_n (pc := 1000) dL_law_1000 rfl ?_
  refine lx_aload_n (pc := 1001) dL_law_1001 rfl ?_
  refine lx_iload (pc := 1002) dL_law_1002 rfl ?_
  refine lx_iconst (pc := 1004) (v := 1) dL_law_1004 (by decide) ?_
  refine lx_iadd (pc := 1005) dL_law_1005 ?_
  refine lx_sld (pc := 1006) dL_law_1006 (lw_i1 hi hL) ?_
  refine lx_invV (pc := 1007) (As := [.int _]) (rest := [.int _]) b1 e1 rfl dL_law_1007 cs_L_153 (oM_apart hM1) rfl rfl (Nat.le_of_ble_eq_true rfl) (Nat.le_of_ble_eq_true rfl) (fun r2 M2 hp2 => ?_)
  obtain ⟨rfl, hM2, hf2⟩ := hp2
  exact lx_icmp_eq (pc := 1010) (tgt := 1140) dL_law_1010 (by decide) (fun _ => K _ _ (lq.M hC1 h541 hM2 hf2)) (fun c => absurd rfl c)
theorem law_c30 {L i : Nat} {xs : Nat → Int32} {M : mm_Mem} {σ : g_st} {z : Nat × Nat} {Q : Option Value → mm_Mem → Prop} (hi : i + 6 ≤ L) (hL : L ≤ 3072) (hq : lq M σ) (K : ∀ M' σ', lq M' σ' → lx_X mL_law 40 (some (L, xs)) z 1140 (lw_ls i) [] M' Q) : lx_X mL_law 40 (some (L, xs)) z 1015 (lw_ls i) [] M Q := by
  obtain ⟨hC, hM, f0, h54⟩ := id hq
  obtain ⟨b0, fs0, e0⟩ := hC.rc0
  refine lx_aload_n (pc := 1015) dL_law_1015 rfl ?_
  refine lx_aload_n (pc := 1016) dL_law_1016 rfl ?_
  refine lx_iload (pc := 1017) dL_law_1017 rfl ?_
  refine lx_iconst (pc := 1019) (v := 1) dL_law_1019 (by decide) ?_
  refine lx_iadd (pc := 1020) dL_law_1020 ?_
  refine lx_sld (pc := 1021) dL_law_1021 (lw_i1 hi hL) ?_
  refine lx_invV (pc := 1022) (As := [.int _]) (rest := []) b0 e0 rfl dL_law_1022 cs_L_154 (oC_clump hC) rfl rfl (Nat.le_of_ble_eq_true rfl) (Nat.le_of_ble_eq_true rfl) (fun r1 M1 hp1 => ?_)
  obtain ⟨rfl, hC1, hf1⟩ := hp1
  obtain ⟨hM1, h541⟩ := hq.C hf1
  obtain ⟨b1, fs1, e1⟩ := hM1.rc0
  refine lx_aload_n (pc := 1025) dL_law_1025 rfl ?_
  refine lx_aload_n (pc := 1026) dL_law_1026 rfl ?_
  refine lx_iload (pc := 1027) dL_law_1027 rfl ?_
  refine lx_iconst (pc := 1029) (v := 1) dL_law_1029 (by decide) ?_
  refine lx_iadd (pc := 1030) dL_law_1030 ?_
  refine lx_sld (pc := 1031) dL_law_1031 (lw_i1 hi hL) ?_
  refine lx_invV (pc := 1032) (As := [.int _]) (rest := [.int _]) b1 e1 rfl dL_law_1032 cs_L_157 (oM_clump hM1) rfl rfl (Nat.le_of_ble_eq_true rfl) (Nat.le_of_ble_eq_true rfl) (fun r2 M2 hp2 => ?_)
  obtain ⟨rfl, hM2, hf2⟩ := hp2
  exact lx_icmp_eq (pc := 1035) (tgt := 1140) dL_law_1035 (by decide) (fun _ => K _ _ (lq.M hC1 h541 hM2 hf2)) (fun c => absurd rfl c)
theorem law_c31 {L i : Nat} {xs : Nat → Int32} {M : mm_Mem} {σ : g_st} {z : Nat × Nat} {Q : Option Value → mm_Mem → Prop} (hi : i + 6 ≤ L) (hL : L ≤ 3072) (hq : lq M σ) (K : ∀ M' σ', lq M' σ' → lx_X mL_law 40 (some (L, xs)) z 1140 (lw_ls i) [] M' Q) : lx_X mL_law 40 (some (L, xs)) z 1040 (lw_ls i) [] M Q := by
  obtain ⟨hC, hM, f0, h54⟩ := id hq
  obtain ⟨b0, fs0, e0⟩ := hC.rc0
  refine lx_aload_n (pc := 1040) dL_law_1040 rfl ?_
  refine lx_aload_n (pc := 1041) dL_law_1041 rfl ?_
  refine lx_iload (pc := 1042) dL_law_1042 rfl ?_
  refine lx_iconst (pc := 1044) (v := 1) dL_law_1044 (by decide) ?_
  refine lx_iadd (pc := 1045) dL_law_1045 ?_
  refine lx_sld (pc := 1046) dL_law_1046 (lw_i1 hi hL) ?_
  refine lx_aload_n (pc := 1047) dL_law_1047 rfl ?_
  refine lx_iload (pc := 1048) dL_law_1048 rfl ?_
  refine lx_iconst (pc := 1050) (v := 2) dL_law_1050 (by decide) ?_
  refine lx_iadd (pc := 1051) dL_law_1051 ?_
  refine lx_sld (pc := 1052) dL_law_1052 (lw_i2 hi hL) ?_
  refine lx_invV (pc := 1053) (As := [.int _, .int _]) (rest := []) b0 e0 rfl dL_law_1053 cs_L_158 (oC_drawn hC) rfl rfl (Nat.le_of_ble_eq_true rfl) (Nat.le_of_ble_eq_true rfl) (fun r1 M1 hp1 => ?_)
  obtain ⟨rfl, hC1, hf1⟩ := hp1
  obtain ⟨hM1, h541⟩ := hq.C hf1
  obtain ⟨b1, fs1, e1⟩ := hM1.rc0
  refine lx_aload_n (pc := 1056) dL_law_1056 rfl ?_
  refine lx_aload_n (pc := 1057) dL_law_1057 rfl ?_
  refine lx_iload (pc := 1058) dL_law_1058 rfl ?_
  refine lx_iconst (pc := 1060) (v := 1) dL_law_1060 (by decide) ?_
  refine lx_iadd (pc := 1061) dL_law_1061 ?_
  refine lx_sld (pc := 1062) dL_law_1062 (lw_i1 hi hL) ?_
  refine lx_aload_n (pc := 1063) dL_law_1063 rfl ?_
  refine lx_iload (pc := 1064) dL_law_1064 rfl ?_
  refine lx_iconst (pc := 1066) (v := 2) dL_law_1066 (by decide) ?_
  refine lx_iadd (pc := 1067) dL_law_1067 ?_
  refine lx_sld (pc := 1068) dL_law_1068 (lw_i2 hi hL) ?_
  refine lx_invV (pc := 1069) (As := [.int _, .int _]) (rest := [.int _]) b1 e1 rfl dL_law_1069 cs_L_161 (oM_drawn hM1) rfl rfl (Nat.le_of_ble_eq_true rfl) (Nat.le_of_ble_eq_true rfl) (fun r2 M2 hp2 => ?_)
  obtain ⟨rfl, hM2, hf2⟩ := hp2
  exact lx_icmp_eq (pc := 1072) (tgt := 1140) dL_law_1072 (by decide) (fun _ => K _ _ (lq.M hC1 h541 hM2 hf2)) (fun c => absurd rfl c)
theorem law_c32 {L i : Nat} {xs : Nat → Int32} {M : mm_Mem} {σ : g_st} {z : Nat × Nat} {Q : Option Value → mm_Mem → Prop} (hi : i + 6 ≤ L) (hL : L ≤ 3072) (hq : lq M σ) (K : ∀ M' σ', lq M' σ' → lx_X mL_law 40 (some (L, xs)) z 1140 (lw_ls i) [] M' Q) : lx_X mL_law 40 (some (L, xs)) z 1077 (lw_ls i) [] M Q := by
  obtain ⟨hC, hM, f0, h54⟩ := id hq
  obtain ⟨b0, fs0, e0⟩ := hC.rc0
  refine lx_aload_n (pc := 1077) dL_law_1077 rfl ?_
  refine lx_invV (pc := 1078) (As := []) (rest := []) b0 e0 rfl dL_law_1078 cs_L_162 (oC_undo hC) rfl rfl (Nat.le_of_ble_eq_true rfl) (Nat.le_of_ble_eq_true rfl) (fun r1 M1 hp1 => ?_)
  obtain ⟨rfl, hC1, hf1⟩ := hp1
  obtain ⟨hM1, h541⟩ := hq.C hf1
  obtain ⟨b1, fs1, e1⟩ := hM1.rc0
  refine lx_aload_n (pc := 1081) dL_law_1081 rfl ?_
  refine lx_invV (pc := 1082) (As := []) (rest := [.int _]) b1 e1 rfl dL_law_1082 cs_L_165 (oM_undo hM1) rfl rfl (Nat.le_of_ble_eq_true rfl) (Nat.le_of_ble_eq_true rfl) (fun r2 M2 hp2 => ?_)
  obtain ⟨rfl, hM2, hf2⟩ := hp2
  exact lx_icmp_eq (pc := 1085) (tgt := 1140) dL_law_1085 (by decide) (fun _ => K _ _ (lq.M hC1 h541 hM2 hf2)) (fun c => absurd rfl c)
theorem law_c33 {L i : Nat} {xs : Nat → Int32} {M : mm_Mem} {σ : g_st} {z : Nat × Nat} {Q : Option Value → mm_Mem → Prop} (hi : i + 6 ≤ L) (hL : L ≤ 3072) (hq : lq M σ) (K : ∀ M' σ', lq M' σ' → lx_X mL_law 40 (some (L, xs)) z 1140 (lw_ls i) [] M' Q) : lx_X mL_law 40 (some (L, xs)) z 1090 (lw_ls i) [] M Q := by
  obtain ⟨hC, hM, f0, h54⟩ := id hq
  obtain ⟨b0, fs0, e0⟩ := hC.rc0
  refine lx_aload_n (pc := 1090) dL_law_1090 rfl ?_
  refine lx_aload_n (pc := 1091) dL_law_1091 rfl ?_
  refine lx_iload (pc := 1092) dL_law_1092 rfl ?_
  refine lx_iconst (pc := 1094) (v := 1) dL_law_1094 (by decide) ?_
  refine lx_iadd (pc := 1095) dL_law_1095 ?_
  refine lx_sld (pc := 1096) dL_law_1096 (lw_i1 hi hL) ?_
  refine lx_invV (pc := 1097) (As := [.int _]) (rest := []) b0 e0 rfl dL_law_1097 cs_L_166 (oC_image hC) rfl rfl (Nat.le_of_ble_eq_true rfl) (Nat.le_of_ble_eq_true rfl) (fun r1 M1 hp1 => ?_)
  obtain ⟨rfl, hC1, hf1⟩ := hp1
  obtain ⟨hM1, h541⟩ := hq.C hf1
  obtain ⟨b1, fs1, e1⟩ := hM1.rc0
  refine lx_aload_n (pc := 1100) dL_law_1100 rfl ?_
  refine lx_aload_n (pc := 1101) dL_law_1101 rfl ?_
  refine lx_iload (pc := 1102) dL_law_1102 rfl ?_
  refine lx_iconst (pc := 1104) (v := 1) dL_law_1104 (by decide) ?_
  refine lx_iadd (pc := 1105) dL_law_1105 ?_
  refine lx_sld (pc := 1106) dL_law_1106 (lw_i1 hi hL) ?_
  refine lx_invV (pc := 1107) (As := [.int _]) (rest := [.int _]) b1 e1 rfl dL_law_1107 cs_L_169 (oM_image hM1) rfl rfl (Nat.le_of_ble_eq_true rfl) (Nat.le_of_ble_eq_true rfl) (fun r2 M2 hp2 => ?_)
  obtain ⟨rfl, hM2, hf2⟩ := hp2
  exact lx_icmp_eq (pc := 1110) (tgt := 1140) dL_law_1110 (by decide) (fun _ => K _ _ (lq.M hC1 h541 hM2 hf2)) (fun c => absurd rfl c)
theorem law_c34 {L i : Nat} {xs : Nat → Int32} {M : mm_Mem} {σ : g_st} {z : Nat × Nat} {Q : Option Value → mm_Mem → Prop} (hi : i + 6 ≤ L) (hL : L ≤ 3072) (hq : lq M σ) (K : ∀ M' σ', lq M' σ' → lx_X mL_law 40 (some (L, xs)) z 1140 (lw_ls i) [] M' Q) : lx_X mL_law 40 (some (L, xs)) z 1115 (lw_ls i) [] M Q := by
  obtain ⟨hC, hM, f0, h54⟩ := id hq
  obtain ⟨b0, fs0, e0⟩ := hC.rc0
  refine lx_aload_n (pc := 1115) dL_law_1115 rfl ?_
  refine lx_aload_n (pc := 1116) dL_law_1116 rfl ?_
  refine lx_iload (pc := 1117) dL_law_1117 rfl ?_
  refine lx_iconst (pc := 1119) (v := 1) dL_law_1119 (by decide) ?_
  refine lx_iadd (pc := 1120) dL_law_1120 ?_
  refine lx_sld (pc := 1121) dL_law_1121 (lw_i1 hi hL) ?_
  refine lx_invV (pc := 1122) (As := [.int _]) (rest := []) b0 e0 rfl dL_law_1122 cs_L_170 (oC_restore hC) rfl rfl (Nat.le_of_ble_eq_true rfl) (Nat.le_of_ble_eq_true rfl) (fun r1 M1 hp1 => ?_)
  obtain ⟨rfl, hC1, hf1⟩ := hp1
  obtain ⟨hM1, h541⟩ := hq.C hf1
  obtain ⟨b1, fs1, e1⟩ := hM1.rc0
  refine lx_aload_n (pc := 1125) dL_law_1125 rfl ?_
  refine lx_aload_n (pc := 1126) dL_law_1126 rfl ?_
  refine lx_iload (pc := 1127) dL_law_1127 rfl ?_
  refine lx_iconst (pc := 1129) (v := 1) dL_law_1129 (by decide) ?_
  refine lx_iadd (pc := 1130) dL_law_1130 ?_
  refine lx_sld (pc := 1131) dL_law_1131 (lw_i1 hi hL) ?_
  refine lx_invV (pc := 1132) (As := [.int _]) (rest := [.int _]) b1 e1 rfl dL_law_1132 cs_L_173 (oM_restore hM1) rfl rfl (Nat.le_of_ble_eq_true rfl) (Nat.le_of_ble_eq_true rfl) (fun r2 M2 hp2 => ?_)
  obtain ⟨rfl, hM2, hf2⟩ := hp2
  exact lx_icmp_eq (pc := 1135) (tgt := 1140) dL_law_1135 (by decide) (fun _ => K _ _ (lq.M hC1 h541 hM2 hf2)) (fun c => absurd rfl c)
