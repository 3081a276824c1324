/-! THE SWITCH AND THE LOOP -/
theorem law_sw {L i : Nat} {xs : Nat → Int32} {M : mm_Mem} {σ : g_st} {z : Nat × Nat} {Q : Option Value → mm_Mem → Prop} (x : Int32) (hi : i + 6 ≤ L) (hL : L ≤ 3072) (hq : lq M σ) (hzz : z.1 + 1 ≤ 601024 ∧ z.2 + 6 ≤ 7293034) (K : ∀ M' σ' (z' : Nat × Nat), z'.1 ≤ z.1 + 1 → z'.2 ≤ z.2 + 6 → lq M' σ' → lx_X mL_law 40 (some (L, xs)) z' 1140 (lw_ls i) [] M' Q) : lx_X mL_law 40 (some (L, xs)) z 40 (lw_ls i) [.int x] M Q := by
  by_cases q0 : x = 0
  · exact lx_tableIn (pc := 40) (tgt := 196) (off := 156) dL_law_40 (by rw [q0]; decide) (by rw [q0]; decide) (by rw [q0]; decide) (by decide) (law_c0 hi hL hq (fun M' σ' => K M' σ' z (Nat.le_succ _) (Nat.le_add_right _ _)))
  by_cases q1 : x = 1
  · exact lx_tableIn (pc := 40) (tgt := 269) (off := 229) dL_law_40 (by rw [q1]; decide) (by rw [q1]; decide) (by rw [q1]; decide) (by decide) (law_c1 hi hL hq (fun M' σ' => K M' σ' z (Nat.le_succ _) (Nat.le_add_right _ _)))
  by_cases q2 : x = 2
  · exact lx_tableIn (pc := 40) (tgt := 294) (off := 254) dL_law_40 (by rw [q2]; decide) (by rw [q2]; decide) (by rw [q2]; decide) (by decide) (law_c2 hi hL hq (fun M' σ' => K M' σ' z (Nat.le_succ _) (Nat.le_add_right _ _)))
  by_cases q3 : x = 3
  · exact lx_tableIn (pc := 40) (tgt := 307) (off := 267) dL_law_40 (by rw [q3]; decide) (by rw [q3]; decide) (by rw [q3]; decide) (by decide) (law_c3 hi hL hq (fun M' σ' => K M' σ' z (Nat.le_succ _) (Nat.le_add_right _ _)))
  by_cases q4 : x = 4
  · exact lx_tableIn (pc := 40) (tgt := 320) (off := 280) dL_law_40 (by rw [q4]; decide) (by rw [q4]; decide) (by rw [q4]; decide) (by decide) (law_c4 hi hL hq (fun M' σ' => K M' σ' z (Nat.le_succ _) (Nat.le_add_right _ _)))
  by_cases q5 : x = 5
  · exact lx_tableIn (pc := 40) (tgt := 345) (off := 305) dL_law_40 (by rw [q5]; decide) (by rw [q5]; decide) (by rw [q5]; decide) (by decide) (law_c5 hi hL hq hzz (fun M' σ' => K M' σ' _ (Nat.le_refl _) (Nat.le_refl _)))
  by_cases q6 : x = 6
  · exact lx_tableIn (pc := 40) (tgt := 401) (off := 361) dL_law_40 (by rw [q6]; decide) (by rw [q6]; decide) (by rw [q6]; decide) (by decide) (law_c6 hi hL hq hzz (fun M' σ' => K M' σ' _ (Nat.le_refl _) (Nat.le_refl _)))
  by_cases q7 : x = 7
  · exact lx_tableIn (pc := 40) (tgt := 469) (off := 429) dL_law_40 (by rw [q7]; decide) (by rw [q7]; decide) (by rw [q7]; decide) (by decide) (law_c7 hi hL hq (fun M' σ' => K M' σ' z (Nat.le_succ _) (Nat.le_add_right _ _)))
  by_cases q8 : x = 8
  · exact lx_tableIn (pc := 40) (tgt := 506) (off := 466) dL_law_40 (by rw [q8]; decide) (by rw [q8]; decide) (by rw [q8]; decide) (by decide) (law_c8 hi hL hq (fun M' σ' => K M' σ' z (Nat.le_succ _) (Nat.le_add_right _ _)))
  by_cases q9 : x = 9
  · exact lx_tableIn (pc := 40) (tgt := 543) (off := 503) dL_law_40 (by rw [q9]; decide) (by rw [q9]; decide) (by rw [q9]; decide) (by decide) (law_c9 hi hL hq (fun M' σ' => K M' σ' z (Nat.le_succ _) (Nat.le_add_right _ _)))
  by_cases q10 : x = 10
  · exact lx_tableIn (pc := 40) (tgt := 568) (off := 528) dL_law_40 (by rw [q10]; decide) (by rw [q10]; decide) (by rw [q10]; decide) (by decide) (law_c10 hi hL hq (fun M' σ' => K M' σ' z (Nat.le_succ _) (Nat.le_add_right _ _)))
  by_cases q11 : x = 11
  · exact lx_tableIn (pc := 40) (tgt := 593) (off := 553) dL_law_40 (by rw [q11]; decide) (by rw [q11]; decide) (by rw [q11]; decide) (by decide) (law_c11 hi hL hq (fun M' σ' => K M' σ' z (Nat.le_succ _) (Nat.le_add_right _ _)))
  by_cases q12 : x = 12
  · exact lx_tableIn (pc := 40) (tgt := 606) (off := 566) dL_law_40 (by rw [q12]; decide) (by rw [q12]; decide) (by rw [q12]; decide) (by decide) (law_c12 hi hL hq (fun M' σ' => K M' σ' z (Nat.le_succ _) (Nat.le_add_right _ _)))
  by_cases q13 : x = 13
  · exact lx_tableIn (pc := 40) (tgt := 619) (off := 579) dL_law_40 (by rw [q13]; decide) (by rw [q13]; decide) (by rw [q13]; decide) (by decide) (law_c13 hi hL hq (fun M' σ' => K M' σ' z (Nat.le_succ _) (Nat.le_add_right _ _)))
  by_cases q14 : x = 14
  · exact lx_tableIn (pc := 40) (tgt := 644) (off := 604) dL_law_40 (by rw [q14]; decide) (by rw [q14]; decide) (by rw [q14]; decide) (by decide) (law_c14 hi hL hq (fun M' σ' => K M' σ' z (Nat.le_succ _) (Nat.le_add_right _ _)))
  by_cases q15 : x = 15
  · exact lx_tableIn (pc := 40) (tgt := 669) (off := 629) dL_law_40 (by rw [q15]; decide) (by rw [q15]; decide) (by rw [q15]; decide) (by decide) (law_c15 hi hL hq hzz (fun M' σ' => K M' σ' _ (Nat.le_refl _) (Nat.le_refl _)))
  by_cases q16 : x = 16
  · exact lx_tableIn (pc := 40) (tgt := 737) (off := 697) dL_law_40 (by rw [q16]; decide) (by rw [q16]; decide) (by rw [q16]; decide) (by decide) (law_c16 hi hL hq (fun M' σ' => K M' σ' z (Nat.le_succ _) (Nat.le_add_right _ _)))
  by_cases q17 : x = 17
  · exact lx_tableIn (pc := 40) (tgt := 750) (off := 710) dL_law_40 (by rw [q17]; decide) (by rw [q17]; decide) (by rw [q17]; decide) (by decide) (law_c17 hi hL hq (fun M' σ' => K M' σ' z (Nat.le_succ _) (Nat.le_add_right _ _)))
  by_cases q18 : x = 18
  · exact lx_tableIn (pc := 40) (tgt := 763) (off := 723) dL_law_40 (by rw [q18]; decide) (by rw [q18]; decide) (by rw [q18]; decide) (by decide) (law_c18 hi hL hq (fun M' σ' => K M' σ' z (Nat.le_succ _) (Nat.le_add_right _ _)))
  by_cases q19 : x = 19
  · exact lx_tableIn (pc := 40) (tgt := 788) (off := 748) dL_law_40 (by rw [q19]; decide) (by rw [q19]; decide) (by rw [q19]; decide) (by decide) (law_c19 hi hL hq (fun M' σ' => K M' σ' z (Nat.le_succ _) (Nat.le_add_right _ _)))
  by_cases q20 : x = 20
  · exact lx_tableIn (pc := 40) (tgt := 837) (off := 797) dL_law_40 (by rw [q20]; decide) (by rw [q20]; decide) (by rw [q20]; decide) (by decide) (law_c20 hi hL hq (fun M' σ' => K M' σ' z (Nat.le_succ _) (Nat.le_add_right _ _)))
  by_cases q21 : x = 21
  · exact lx_tableIn (pc := 40) (tgt := 850) (off := 810) dL_law_40 (by rw [q21]; decide) (by rw [q21]; decide) (by rw [q21]; decide) (by decide) (law_c21 hi hL hq (fun M' σ' => K M' σ' z (Nat.le_succ _) (Nat.le_add_right _ _)))
  by_cases q22 : x = 22
  · exact lx_tableIn (pc := 40) (tgt := 863) (off := 823) dL_law_40 (by rw [q22]; decide) (by rw [q22]; decide) (by rw [q22]; decide) (by decide) (law_c22 hi hL hq (fun M' σ' => K M' σ' z (Nat.le_succ _) (Nat.le_add_right _ _)))
  by_cases q23 : x = 23
  · exact lx_tableIn (pc := 40) (tgt := 876) (off := 836) dL_law_40 (by rw [q23]; decide) (by rw [q23]; decide) (by rw [q23]; decide) (by decide) (law_c23 hi hL hq (fun M' σ' => K M' σ' z (Nat.le_succ _) (Nat.le_add_right _ _)))
  by_cases q24 : x = 24
  · exact lx_tableIn (pc := 40) (tgt := 889) (off := 849) dL_law_40 (by rw [q24]; decide) (by rw [q24]; decide) (by rw [q24]; decide) (by decide) (law_c24 hi hL hq (fun M' σ' => K M' σ' z (Nat.le_succ _) (Nat.le_add_right _ _)))
  by_cases q25 : x = 25
  · exact lx_tableIn (pc := 40) (tgt := 914) (off := 874) dL_law_40 (by rw [q25]; decide) (by rw [q25]; decide) (by rw [q25]; decide) (by decide) (law_c25 hi hL hq (fun M' σ' => K M' σ' z (Nat.le_succ _) (Nat.le_add_right _ _)))
  by_cases q26 : x = 26
  · exact lx_tableIn (pc := 40) (tgt := 939) (off := 899) dL_law_40 (by rw [q26]; decide) (by rw [q26]; decide) (by rw [q26]; decide) (by decide) (law_c26 hi hL hq (fun M' σ' => K M' σ' z (Nat.le_succ _) (Nat.le_add_right _ _)))
  by_cases q27 : x = 27
  · exact lx_tableIn (pc := 40) (tgt := 952) (off := 912) dL_law_40 (by rw [q27]; decide) (by rw [q27]; decide) (by rw [q27]; decide) (by decide) (law_c27 hi hL hq (fun M' σ' => K M' σ' z (Nat.le_succ _) (Nat.le_add_right _ _)))
  by_cases q28 : x = 28
  · exact lx_tableIn (pc := 40) (tgt := 965) (off := 925) dL_law_40 (by rw [q28]; decide) (by rw [q28]; decide) (by rw [q28]; decide) (by decide) (law_c28 hi hL hq (fun M' σ' => K M' σ' z (Nat.le_succ _) (Nat.le_add_right _ _)))
  by_cases q29 : x = 29
  · exact lx_tableIn (pc := 40) (tgt := 990) (off := 950) dL_law_40 (by rw [q29]; decide) (by rw [q29]; decide) (by rw [q29]; decide) (by decide) (law_c29 hi hL hq (fun M' σ' => K M' σ' z (Nat.le_succ _) (Nat.le_add_right _ _)))
  by_cases q30 : x = 30
  · exact lx_tableIn (pc := 40) (tgt := 1015) (off := 975) dL_law_40 (by rw [q30]; decide) (by rw [q30]; decide) (by rw [q30]; decide) (by decide) (law_c30 hi hL hq (fun M' σ' => K M' σ' z (Nat.le_succ _) (Nat.le_add_right _ _)))
  by_cases q31 : x = 31
  · exact lx_tableIn (pc := 40) (tgt := 1040) (off := 1000) dL_law_40 (by rw [q31]; decide) (by rw [q31]; decide) (by rw [q31]; decide) (by decide) (law_c31 hi hL hq (fun M' σ' => K M' σ' z (Nat.le_succ _) (Nat.le_add_right _ _)))
  by_cases q32 : x = 32
  · exact lx_tableIn (pc := 40) (tgt := 1077) (off := 1037) dL_law_40 (by rw [q32]; decide) (by rw [q32]; decide) (by rw [q32]; decide) (by decide) (law_c32 hi hL hq (fun M' σ' => K M' σ' z (Nat.le_succ _) (Nat.le_add_right _ _)))
  by_cases q33 : x = 33
  · exact lx_tableIn (pc := 40) (tgt := 1090) (off := 1050) dL_law_40 (by rw [q33]; decide) (by rw [q33]; decide) (by rw [q33]; decide) (by decide) (law_c33 hi hL hq (fun M' σ' => K M' σ' z (Nat.le_succ _) (Nat.le_add_right _ _)))
  by_cases q34 : x = 34
  · exact lx_tableIn (pc := 40) (tgt := 1115) (off := 1075) dL_law_40 (by rw [q34]; decide) (by rw [q34]; decide) (by rw [q34]; decide) (by decide) (law_c34 hi hL hq (fun M' σ' => K M' σ' z (Nat.le_succ _) (Nat.le_add_right _ _)))
  exact lx_tableOut (pc := 40) (tgt := 1140) dL_law_40 (by have t0 := mm_ti (k := 0) q0 (by decide); have t1 := mm_ti (k := 1) q1 (by decide); have t2 := mm_ti (k := 2) q2 (by decide); have t3 := mm_ti (k := 3) q3 (by decide); have t4 := mm_ti (k := 4) q4 (by decide); have t5 := mm_ti (k := 5) q5 (by decide); have t6 := mm_ti (k := 6) q6 (by decide); have t7 := mm_ti (k := 7) q7 (by decide); have t8 := mm_ti (k := 8) q8 (by decide); have t9 := mm_ti (k := 9) q9 (by decide); have t10 := mm_ti (k := 10) q10 (by decide); have t11 := mm_ti (k := 11) q11 (by decide); have t12 := mm_ti (k := 12) q12 (by decide); have t13 := mm_ti (k := 13) q13 (by decide); have t14 := mm_ti (k := 14) q14 (by decide); have t15 := mm_ti (k := 15) q15 (by decide); have t16 := mm_ti (k := 16) q16 (by decide); have t17 := mm_ti (k := 17) q17 (by decide); have t18 := mm_ti (k := 18) q18 (by decide); have t19 := mm_ti (k := 19) q19 (by decide); have t20 := mm_ti (k := 20) q20 (by decide); have t21 := mm_ti (k := 21) q21 (by decide); have t22 := mm_ti (k := 22) q22 (by decide); have t23 := mm_ti (k := 23) q23 (by decide); have t24 := mm_ti (k := 24) q24 (by decide); have t25 := mm_ti (k := 25) q25 (by decide); have t26 := mm_ti (k := 26) q26 (by decide); have t27 := mm_ti (k := 27) q27 (by decide); have t28 := mm_ti (k := 28) q28 (by decide); have t29 := mm_ti (k := 29) q29 (by decide); have t30 := mm_ti (k := 30) q30 (by decide); have t31 := mm_ti (k := 31) q31 (by decide); have t32 := mm_ti (k := 32) q32 (by decide); have t33 := mm_ti (k := 33) q33 (by decide); have t34 := mm_ti (k := 34) q34 (by decide); omega) (by decide) (K M σ z (Nat.le_succ _) (Nat.le_add_right _ _) hq)
