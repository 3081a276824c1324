/-! CALLS OF BOTH SIDES: meet -/
noncomputable def o_meet : g_st → Int32 × g_st
  | (n, T, L, K, t, f, fk) => if (gl n T).length ≤ 14 then (nI (gl n T).length, ((gl n T).length, g_mt (gl n T) (gl n T).length, g_kp L (n, T), K, t, f, fk)) else (-1, (n, T, L, K, t, f, fk))
theorem oC_meet {M : mm_Mem} {σ : g_st} (h : CS M σ) : OC 4 mX9_meet [] M (o_meet σ) := by
  obtain ⟨n, T, L, K, t, f, fk⟩ := σ
  obtain ⟨⟨pf, sd, h1, h2⟩, h3, h4, ⟨n3, T3, h5, h5'⟩, h6, h7, h8, h9, h10, h11⟩ := id h
  obtain ⟨oo, C, ac1⟩ := id h11
  have hl := gl_len (T := T) h4.1
  refine mm_S.of rfl rfl (Nat.le_of_ble_eq_true rfl) ndC (bX9_meet_0 h3.1 (h1.r 0 1 (by decide)) (mm_Call.eq (s_lines h3 h4) (by decide) (bX9_meet_7 ac1.1 (h1.r 8 26 (by decide)) (h1.r 0 1 (by decide)) (fun c => ?_) (fun c => ?_))))
  · rw [g_lines_len h4, ks_14, ks_le (by omega) (by decide)] at c
    dsimp only [o_meet]
    rw [if_pos c]
    refine mm_Call.of (s_keep h11 h3 h4 (by decide)) (by decide) ?_
    rintro _ M1 ⟨rfl, k1, k2⟩
    have a0 := h1.eq (k2 0 (by decide) (by decide))
    have a1 := h3.eq (k2 1 (by decide) (by decide)) (k2 2 (by decide) (by decide))
    have a3 := h5.eq (k2 3 (by decide) (by decide)) (k2 4 (by decide) (by decide))
    refine bX9_meet_25 a3.1 (a0.r 1 3 (by decide)) (a0.r 0 1 (by decide)) (mm_Call.eq (s_becomeMeetingOf a1 h4 a3 h5' c) (by decide) ?_)
    have e1 : ∀ j, j ≠ 3 → j ≠ 4 → mm_net M1 3 (gl n T).length (g_mt (gl n T) (gl n T).length) j = M1 j := fun j j1 j2 => mm_net_n j1 j2
    have q3 : na (mm_net M1 3 (gl n T).length (g_mt (gl n T) (gl n T).length)) 3 _ _ := mm_net_na (by decide)
    generalize mm_net M1 3 (gl n T).length (g_mt (gl n T) (gl n T).length) = M2 at e1 q3 ⊢
    have b0 := a0.eq (e1 0 (by decide) (by decide))
    have b1 := a1.eq (e1 1 (by decide) (by decide)) (e1 2 (by decide) (by decide))
    refine bX9_meet_36 b1.1 (b0.r 0 1 (by decide)) (b0.r 1 3 (by decide)) (mm_Call.eq (s_copyN b1 q3 h4 (gw_mt c) (by decide) (by decide) (by decide)) (by decide) ?_)
    have e2 : ∀ j, j ≠ 1 → j ≠ 2 → mm_net M2 1 (gl n T).length (g_mt (gl n T) (gl n T).length) j = M2 j := fun j j1 j2 => mm_net_n j1 j2
    have q1 : na (mm_net M2 1 (gl n T).length (g_mt (gl n T) (gl n T).length)) 1 _ _ := mm_net_na (by decide)
    generalize mm_net M2 1 (gl n T).length (g_mt (gl n T) (gl n T).length) = M3 at e2 q1 ⊢
    have e : ∀ j, 4 < j → j ≠ 26 → j ≠ 28 → M3 j = M j := fun j j1 j2 j3 => by rw [e2 j (by omega) (by omega), e1 j (by omega) (by omega), k2 j (by omega) (by omega)]
    have e0 : M3 0 = M 0 := by rw [e2 0 (by decide) (by decide), e1 0 (by decide) (by decide), k2 0 (by decide) (by decide)]
    exact bX9_meet_47 q1.1 ((b0.r 0 1 (by decide)).eq (e2 0 (by decide) (by decide))) (by decide) ⟨rfl, h.act (co_same e0) q1 (gw_mt c) ⟨_, _, q3.eq (e2 3 (by decide) (by decide)) (e2 4 (by decide) (by decide)), gw_mt c⟩ (k1.eq fun j j1 j2 => by rw [e2 j (by omega) (by omega), e1 j (by omega) (by omega)]) fun j j1 j2 j3 => e j j1 (by omega) (by omega), fun j hj => e j (by omega) (by omega) (by omega)⟩
  · rw [g_lines_len h4, ks_14, ks_le (by omega) (by decide)] at c
    dsimp only [o_meet]
    rw [if_neg c]
    exact ⟨rfl, h, fun _ _ => rfl⟩
theorem s_laysLines' {M : mm_Mem} {n : Nat} {T : Nat → Nat} {L : g_nets} {K : g_kept} {t : Nat} {f : Nat → Int32} {fk th : Int32} (h : MT M th (n, T, L, K, t, f, fk)) : mm_S 2 mX10_laysLines 0 0 [.ref 31, .ref 33] M (fun r M' => r = some (.int (nI (gl n T).length)) ∧ MT M' th (n, T, L, K, t, f, fk) ∧ (∃ f g, mm_at M' 51 (mm_aI 91 f) ∧ mm_at M' 52 (mm_aI 91 g) ∧ g_two_f (gl n T) f g) ∧ ∀ j, j ≠ 51 → j ≠ 52 → M' j = M j) := by
  obtain ⟨F, w, m1, m2, m3⟩ := h.mo
  obtain ⟨o, hw⟩ := h.now
  refine mm_S.mono (s_laysLines m1 o hw (h.sc 51 91 (by decide)) (h.sc 52 91 (by decide)) (by decide) (by decide)) ?_
  rintro r M' ⟨rfl, ⟨a, b, p1, p2, p3⟩, k⟩
  have := h.scr m1 (m1.eq (k 31 (by decide) (by decide))) rfl rfl rfl (fun j hj => k j (by omega) (by omega)) (h.msc.up (fun q hq => ?_) (fun a ha => Or.inl (k a (by have := mk_nets_in a ha; omega) (by have := mk_nets_in a ha; omega))) (Or.inl (k 42 (by decide) (by decide))))
  · rw [m2] at this
    exact ⟨rfl, this, ⟨a, b, p1, p2, p3⟩, k⟩
  · by_cases e1 : q.1 = 51
    · have : q = (51, 91) := by
        have hh : ∀ q ∈ mk_scr, q.1 = 51 → q = (51, 91) := by decide
        exact hh q hq e1
      subst this
      exact Or.inr ⟨_, p1⟩
    · by_cases e2 : q.1 = 52
      · have : q = (52, 91) := by
          have hh : ∀ q ∈ mk_scr, q.1 = 52 → q = (52, 91) := by decide
          exact hh q hq e2
        subst this
        exact Or.inr ⟨_, p2⟩
      · exact Or.inl (k q.1 e1 e2)
theorem oM_meet {M : mm_Mem} {σ : g_st} (h : MS M σ) : OM 3 mX10_meet [] M (o_meet σ) := by
  obtain ⟨n, T, L, K, t, f, fk⟩ := σ
  obtain ⟨th, h⟩ := h
  obtain ⟨F, w, m1, m2⟩ := h.mo
  obtain ⟨o, hw⟩ := h.now
  have hn := hw.1
  have hl := gl_len (T := T) hn
  refine mm_S.of rfl rfl (Nat.le_of_ble_eq_true rfl) ndM (bX10_meet_0 (m1.i 0 (by decide)) (m1.r 10 33 (by decide)) (mm_Call.of (s_laysLines' h.z) (by decide) ?_))
  rintro _ M1 ⟨rfl, k1, ⟨lf, lg, p1, p2, p3⟩, k2⟩
  have hM1 : fM M M1 := fun j hj => by rw [k2 j (by omega) (by omega), mm_upF_n (by omega)]
  have k1' : MS M1 (n, T, L, K, t, f, fk) := ⟨_, k1⟩
  refine bX10_meet_13 k1'.rc (fun c => ?_) (fun c => ?_)
  · rw [ks_14, ks_le (by omega) (by decide)] at c
    dsimp only [o_meet]
    rw [if_pos c]
    refine mm_Call.of (s_snap' k1) (by decide) ?_
    rintro _ M2 ⟨rfl, k3, k4⟩
    have q1 := p1.eq (k4 51 (by decide) (by decide))
    have q2 := p2.eq (k4 52 (by decide) (by decide))
    obtain ⟨F2, w2, n1, n2⟩ := k3.mo
    obtain ⟨o2, -⟩ := k3.now
    have hM2 : fM M M2 := fun j hj => by rw [k4 j (by omega) (by omega), hM1 j hj]
    have dn : ∀ (N : Nat) (F : Nat → Nat), mo (mm_up M2 33 (mm_aI 15 (gk_f N F))) F2 w2 := fun N F => n1.up (by decide)
    refine bX10_meet_26 ?_
    rw [show M2 = mm_up M2 33 (mm_aI 15 (gk_f n T)) from (mm_up_id o2.2).symm, show (0 : Int32) = nI 0 from rfl]
    refine fld (s := 0) (n := 15) (G := fun k X => mm_X mX10_meet 3 none (0, 0) 28 [.ref 31, .int (nI (gl n T).length), .int (nI k), .null] [] (mm_up M2 33 (mm_aI 15 X)) _) (I := fun k X => ∀ i, X i = if i < k then 0 else gk_f n T i) (Nat.zero_le 15) (fun i => by rw [if_neg (Nat.not_lt_zero i)]) ?_
    intro k X _ hk hI ih
    have oX : mm_at (mm_up M2 33 (mm_aI 15 X)) 33 (mm_aI 15 X) := mm_at.s o2.1
    have fX : mm_fd (mm_up M2 33 (mm_aI 15 X)) 31 10 10 (.ref 33) := (n1.r 10 33 (by decide)).o (by decide)
    have lt : ¬ (15 : Int32) ≤ nI k → k < 15 := by
      intro c
      rw [ks_15, ks_le (by decide) (by omega)] at c
      omega
    refine bX10_meet_28 oX fX (fun _ => gk_in0) (fun c1 => ?_) (fun c1 => vp_in_nI (lt c1) (by decide)) (fun c1 => ?_)
    · rw [ks_15, ks_le (by decide) (by omega)] at c1
      obtain rfl : k = 15 := by omega
      have eX : X = gk_f 0 fun _ => 0 := by
        funext i
        rw [hI i]
        unfold gk_f
        by_cases e : i < 15
        · rw [if_pos e]
          by_cases e0 : i = 0 <;> simp [e0] <;> rfl
        · rw [if_neg e, if_neg (by omega), if_neg (by omega), hw.2.2.1 _ (by omega)]
      rw [eX, gk_upd0, mm_up_up]
      refine fld (s := 0) (n := (gl n T).length) (G := fun l G => mm_X mX10_meet 3 none (0, 0) 56 [.ref 31, .int (nI (gl n T).length), .int (nI l), .null] [] (mm_up M2 33 (mm_aI 15 (gk_f (gl n T).length G))) _) (I := fun l G => g_mi (gl n T) l 0 G) (Nat.zero_le _) ⟨fun _ => (by decide : 0 < 16384), fun p q => ?_⟩ ?_
      · rw [Nat.zero_testBit]
        exact ⟨fun h => (by cases h), fun h => by have := h.2.2.2; unfold g_bef at this; omega⟩
      intro l G _ hl' hG ih2
      refine bX10_meet_56 (fun c2 => ?_) (fun c2 => ?_)
      · rw [ks_le (by omega) (by omega)] at c2
        obtain rfl : l = (gl n T).length := by omega
        have := g_mi_end hG
        subst this
        exact ⟨rfl, ⟨_, k3.net (gw_mt c)⟩, fun j hj => by rw [mm_up_n (by omega), hM2 j hj]⟩
      rw [ks_le (by omega) (by omega)] at c2
      rw [nI_1]
      refine fld (s := l + 1) (n := (gl n T).length) (G := fun m G => mm_X mX10_meet 3 none (0, 0) 65 [.ref 31, .int (nI (gl n T).length), .int (nI l), .int (nI m)] [] (mm_up M2 33 (mm_aI 15 (gk_f (gl n T).length G))) _) (I := fun m G => g_mi (gl n T) l m G) (by omega) (g_mi_c hG fun p q h1 h2 => by unfold g_bef; omega) ?_
      intro m G hlm hm hG ih3
      have r1 := q1.n (a := 33) (c' := mm_aI 15 (gk_f (gl n T).length G)) (by decide)
      have r2 := q2.n (a := 33) (c' := mm_aI 15 (gk_f (gl n T).length G)) (by decide)
      have mm := dn (gl n T).length G
      have og : ra (mm_up M2 33 (mm_aI 15 (gk_f (gl n T).length G))) 33 (gl n T).length G := mm_at.s o2.1
      by_cases hm2 : m < (gl n T).length
      · obtain ⟨u, hu⟩ : ∃ u, (gl n T)[l]? = some u := ⟨_, List.getElem?_eq_getElem (show l < _ by omega)⟩
        obtain ⟨v, hv⟩ : ∃ v, (gl n T)[m]? = some v := ⟨_, List.getElem?_eq_getElem hm2⟩
        have bu := gl_at hu
        have bv := gl_at hv
        obtain ⟨x1, x2⟩ := p3 l u hu
        obtain ⟨y1, y2⟩ := p3 m v hv
        have sh : g_sh (gl n T) l m ↔ g_shp u v := by
          constructor
          · rintro ⟨u', v', h1, h2, h⟩
            rw [hu] at h1
            rw [hv] at h2
            cases h1
            cases h2
            exact h
          · exact fun h => ⟨u, v, hu, hv, h⟩
        have il : vp_in (nI l) 91 := vp_in_nI (by omega) (by decide)
        have im : vp_in (nI m) 91 := vp_in_nI (by omega) (by decide)
        have cl : (nI l).toNatClampNeg = l := nI_clamp (by omega)
        have cm : (nI m).toNatClampNeg = m := nI_clamp (by omega)
        have yes : g_shp u v → mm_X mX10_meet 3 none (0, 0) 130 [.ref 31, .int (nI (gl n T).length), .int (nI l), .int (nI m)] [] (mm_up M2 33 (mm_aI 15 (gk_f (gl n T).length G))) (fun r M' => r = some (.int (nI (gl n T).length)) ∧ MS M' ((gl n T).length, g_mt (gl n T) (gl n T).length, g_kp L (n, T), K, t, f, fk) ∧ fM M M') := by
          intro hs
          refine bX10_meet_130 og (mm.r 10 33 (by decide)) (by decide) (gk_in1 (by omega)) (gk_in1 (by omega)) (gk_in1 (by omega)) (gk_in1 (by omega)) ?_
          rw [gk_turns (by omega) (by omega) (by omega), mm_up_up]
          refine bX10_meet_139 ?_
          rw [nI_1]
          exact ih3 _ hm2 (g_mi_s hG (by omega) hm2 c (sh.mpr hs))
        have no : ¬ nI (gl n T).length ≤ nI m := by rw [ks_le (by omega) (by omega)]; omega
        refine bX10_meet_65 r1 r2 (mm.r 35 51 (by decide)) (mm.r 36 52 (by decide)) (fun c3 => absurd c3 no) (fun _ => il) (fun _ => im) (fun _ c3 => ?_) (fun _ _ => il) (fun _ _ => im) (fun _ _ c3 => ?_) (fun _ _ _ => il) (fun _ _ _ => im) (fun _ _ _ c3 => ?_) (fun _ _ _ _ => il) (fun _ _ _ _ => im) (fun _ c3 c4 c5 c6 => ?_) (fun _ _ _ _ c3 => ?_)
        · rw [cl, cm, x1, y1, ks_eqI (by omega) (by omega)] at c3
          exact yes (Or.inl c3)
        · rw [cl, cm, x1, y2, ks_eqI (by omega) (by omega)] at c3
          exact yes (Or.inr (Or.inl c3))
        · rw [cl, cm, x2, y1, ks_eqI (by omega) (by omega)] at c3
          exact yes (Or.inr (Or.inr (Or.inl c3)))
        · rw [cl, cm, x1, y1, ks_eqI (by omega) (by omega)] at c3
          rw [cl, cm, x1, y2, ks_eqI (by omega) (by omega)] at c4
          rw [cl, cm, x2, y1, ks_eqI (by omega) (by omega)] at c5
          rw [cl, cm, x2, y2, ks_eqI (by omega) (by omega)] at c6
          refine bX10_meet_139 ?_
          rw [nI_1]
          refine ih3 _ hm2 (g_mi_n hG (by omega) fun h => ?_)
          rcases sh.mp h with h | h | h | h
          · exact c3 h
          · exact c4 h
          · exact c5 h
          · exact c6 h
        · rw [cl, cm, x2, y2, ks_eqI (by omega) (by omega)] at c3
          exact yes (Or.inr (Or.inr (Or.inr c3)))
      · obtain rfl : m = (gl n T).length := by omega
        have no : ¬ ¬ nI (gl n T).length ≤ nI (gl n T).length := fun h => h (Int32.le_refl _)
        refine bX10_meet_65 r1 r2 (mm.r 35 51 (by decide)) (mm.r 36 52 (by decide)) (fun c3 => ?_) (fun q => absurd q no) (fun q => absurd q no) (fun q => absurd q no) (fun q => absurd q no) (fun q => absurd q no) (fun q => absurd q no) (fun q => absurd q no) (fun q => absurd q no) (fun q => absurd q no) (fun q => absurd q no) (fun q => absurd q no) (fun q => absurd q no) (fun q => absurd q no)
        rw [nI_1]
        exact ih2 _ (by omega) (g_mi_c hG fun p q h1 h2 => by unfold g_bef; omega)
    · have := lt c1
      rw [nI_clamp (by omega), mm_up_up, nI_1]
      refine ih _ this fun i => ?_
      unfold upd
      by_cases e : i = k
      · rw [if_pos e, if_pos (by omega)]
      · rw [if_neg e, hI i]
        by_cases e2 : i < k
        · rw [if_pos e2, if_pos (by omega)]
        · rw [if_neg e2, if_neg (by omega)]
  · rw [ks_14, ks_le (by omega) (by decide)] at c
    dsimp only [o_meet]
    rw [if_neg c]
    exact ⟨rfl, k1', hM1⟩
