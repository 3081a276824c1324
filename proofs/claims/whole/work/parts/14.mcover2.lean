/-! THE MODEL: odd triangles, and the cover test -/
theorem s_hasOddTwo {M : mm_Mem} {a n S : Nat} {T : Nat → Nat} (o : ra M a n T) (hw : gw n T) (hS : S < 2 ^ n) : mm_S 2 mX10_hasOddTwo 0 0 [.ref a, .int (nI S)] M (mm_Eq (some (.int (ks_b (g_pair n T S)))) M) := by
  have hn := hw.1
  have hS' := ks_p14 hn hS
  refine mm_S.of rfl rfl (Nat.le_of_ble_eq_true rfl) mm_ndi (bX10_hasOddTwo_0 ?_)
  refine srch (G := fun j => mm_X mX10_hasOddTwo 2 none (0, 0) 2 [.ref a, .int (nI S), .int (nI j), .null, .null, .null] [] M (mm_Eq (some (.int (ks_b (g_pair n T S)))) M)) (P := fun a => ∃ b, a < b ∧ b < n ∧ S.testBit a = true ∧ S.testBit b = true ∧ (T a).testBit b = true ∧ ∃ t u, t ≠ u ∧ g_tip T S a b t ∧ g_tip T S a b u ∧ (T t).testBit u = false) (Nat.zero_le n) ?_
  intro j h0 hj hI ih
  have hTj := hw.2.1 j
  have hTj' := ks_p14 hn hTj
  refine bX10_hasOddTwo_2 o gk_in0 (fun c => ⟨?_, rfl⟩) (fun c => ?_)
  · simp (disch := omega) only [ks_le, ks_ltI, ks_eqI, ks_eq0, ks_le14, ks_has, ks_mhas, ks_at, ks_b0, gk_0, gk_1, ks_andn, nx_and, nx_or, nx_xor, ks_shl1, ks_shl2, Classical.not_not, nI_1] at c
    rw [ks_bf]
    rintro ⟨a, b, h1, h2, h3⟩
    exact hI a (Nat.zero_le a) (by omega) ⟨b, h1, h2, h3⟩
  · simp (disch := omega) only [ks_le, ks_ltI, ks_eqI, ks_eq0, ks_le14, ks_has, ks_mhas, ks_at, ks_b0, gk_0, gk_1, ks_andn, nx_and, nx_or, nx_xor, ks_shl1, ks_shl2, Classical.not_not, nI_1] at c
    rw [nI_1]
    refine srch (G := fun i => mm_X mX10_hasOddTwo 2 none (0, 0) 13 [.ref a, .int (nI S), .int (nI j), .int (nI i), .null, .null] [] M (mm_Eq (some (.int (ks_b (g_pair n T S)))) M)) (P := fun b => S.testBit j = true ∧ S.testBit b = true ∧ (T j).testBit b = true ∧ ∃ t u, t ≠ u ∧ g_tip T S j b t ∧ g_tip T S j b u ∧ (T t).testBit u = false) (show j + 1 ≤ n by omega) ?_
    intro i h1 hi hJ ih2
    refine bX10_hasOddTwo_13 o (by decide) gk_in0 (fun c2 => ?_) (fun c2 c3 => ?_) (fun c2 c3 c4 => ?_) (fun _ _ _ => gk_in1 (by omega)) (fun c2 c3 c4 c5 => ?_) (fun c2 c3 c4 c5 => ?_)
    · simp (disch := omega) only [ks_le, ks_ltI, ks_eqI, ks_eq0, ks_le14, ks_has, ks_mhas, ks_at, ks_b0, gk_0, gk_1, ks_andn, nx_and, nx_or, nx_xor, ks_shl1, ks_shl2, Classical.not_not, nI_1] at c2
      rw [nI_1]
      refine ih (by omega) ?_
      rintro ⟨b, g1, g2, g3⟩
      exact hJ b (by omega) (by omega) g3
    · simp (disch := omega) only [ks_le, ks_ltI, ks_eqI, ks_eq0, ks_le14, ks_has, ks_mhas, ks_at, ks_b0, gk_0, gk_1, ks_andn, nx_and, nx_or, nx_xor, ks_shl1, ks_shl2, Classical.not_not, nI_1] at c2
      simp (disch := omega) only [ks_le, ks_ltI, ks_eqI, ks_eq0, ks_le14, ks_has, ks_mhas, ks_at, ks_b0, gk_0, gk_1, ks_andn, nx_and, nx_or, nx_xor, ks_shl1, ks_shl2, Classical.not_not, nI_1] at c3
      rw [nI_1]
      exact ih2 (by omega) (fun h => c3 h.1)
    · simp (disch := omega) only [ks_le, ks_ltI, ks_eqI, ks_eq0, ks_le14, ks_has, ks_mhas, ks_at, ks_b0, gk_0, gk_1, ks_andn, nx_and, nx_or, nx_xor, ks_shl1, ks_shl2, Classical.not_not, nI_1] at c2
      simp (disch := omega) only [ks_le, ks_ltI, ks_eqI, ks_eq0, ks_le14, ks_has, ks_mhas, ks_at, ks_b0, gk_0, gk_1, ks_andn, nx_and, nx_or, nx_xor, ks_shl1, ks_shl2, Classical.not_not, nI_1] at c4
      rw [nI_1]
      exact ih2 (by omega) (fun h => c4 h.2.1)
    · simp (disch := omega) only [ks_le, ks_ltI, ks_eqI, ks_eq0, ks_le14, ks_has, ks_mhas, ks_at, ks_b0, gk_0, gk_1, ks_andn, nx_and, nx_or, nx_xor, ks_shl1, ks_shl2, Classical.not_not, nI_1] at c2
      simp (disch := omega) only [ks_le, ks_ltI, ks_eqI, ks_eq0, ks_le14, ks_has, ks_mhas, ks_at, ks_b0, gk_0, gk_1, ks_andn, nx_and, nx_or, nx_xor, ks_shl1, ks_shl2, Classical.not_not, nI_1] at c3
      simp (disch := omega) only [ks_le, ks_ltI, ks_eqI, ks_eq0, ks_le14, ks_has, ks_mhas, ks_at, ks_b0, gk_0, gk_1, ks_andn, nx_and, nx_or, nx_xor, ks_shl1, ks_shl2, Classical.not_not, nI_1] at c4
      rw [gk_1 (by omega), ks_mhas (by omega) (by omega), ks_b0, Classical.not_not] at c5
      have hTi' := ks_p14 hn (hw.2.1 i)
      have hA : S &&& T j &&& T i < 2 ^ n := ks_and2 (hw.2.1 i)
      have hA' := ks_p14 hn hA
      have hbit : ∀ t, (S &&& T j &&& T i).testBit t = true ↔ (S.testBit t = true ∧ (T j).testBit t = true ∧ (T i).testBit t = true) := by
        intro t
        rw [Nat.testBit_and, Nat.testBit_and, Bool.and_eq_true, Bool.and_eq_true, and_assoc]
      refine fld (G := fun t F => mm_X mX10_hasOddTwo 2 none (0, 0) 54 [.ref a, .int (nI S), .int (nI j), .int (nI i), .int (nI F), .int (nI t)] [] M (mm_Eq (some (.int (ks_b (g_pair n T S)))) M)) (I := fun t F => F < 2 ^ n ∧ ∀ u, F.testBit u = true ↔ (u < t ∧ g_tip T S j i u)) (Nat.zero_le n) ⟨Nat.pow_pos (by decide), fun t => by simp⟩ ?_
      intro t F g0 ht hIF ih3
      obtain ⟨hF, hIF⟩ := hIF
      have hF' := ks_p14 hn hF
      have skip : ¬ g_tip T S j i t → ∀ u, F.testBit u = true ↔ (u < t + 1 ∧ g_tip T S j i u) := by
        intro hg u
        rw [hIF u]
        constructor
        · rintro ⟨h1, h2⟩
          exact ⟨by omega, h2⟩
        · rintro ⟨h1, h2⟩
          rcases Nat.lt_or_ge u t with q | q
          · exact ⟨q, h2⟩
          · obtain rfl : u = t := by omega
            exact absurd h2 hg
      refine bX10_hasOddTwo_54 o (by decide) gk_in0 (fun d1 => ?_) (fun _ => gk_in1 (by omega)) (fun _ => gk_in1 (by omega)) (fun d1 d2 => ?_) (fun d1 d2 => ?_)
      · simp (disch := omega) only [ks_le, ks_ltI, ks_eqI, ks_eq0, ks_le14, ks_has, ks_mhas, ks_at, ks_b0, gk_0, gk_1, ks_andn, nx_and, nx_or, nx_xor, ks_shl1, ks_shl2, Classical.not_not, nI_1] at d1
        have hFt : ∀ u, F.testBit u = true ↔ g_tip T S j i u := fun u => by
          rw [hIF u]
          exact ⟨fun h => h.2, fun h => ⟨by have := ks_bit_lt hS h.2.2.1; omega, h⟩⟩
        refine srch (G := fun r => mm_X mX10_hasOddTwo 2 none (0, 0) 113 [.ref a, .int (nI S), .int (nI j), .int (nI i), .int (nI F), .int (nI r)] [] M (mm_Eq (some (.int (ks_b (g_pair n T S)))) M)) (P := fun r => F.testBit r = true ∧ ∃ u, F.testBit u = true ∧ (T r).testBit u = false ∧ r ≠ u) (Nat.zero_le n) ?_
        intro r k0 hr hL ih4
        have hlt : ks_nd (ks_nd F (T r)) (2 ^ r) < 2 ^ 31 := by
          have l1 := ks_nd_le F (T r)
          have l2 := ks_nd_le (ks_nd F (T r)) (2 ^ r)
          omega
        have hz : ks_nd (ks_nd F (T r)) (2 ^ r) = 0 ↔ ¬ ∃ u, F.testBit u = true ∧ (T r).testBit u = false ∧ r ≠ u := by
          have b : ∀ u, (ks_nd (ks_nd F (T r)) (2 ^ r)).testBit u = ((F.testBit u && !(T r).testBit u) && !decide (r = u)) := by
            intro u
            have l1 := ks_nd_le F (T r)
            rw [ks_nd_bit (by omega), ks_nd_bit (by omega), ks_p2]
          rw [ks_zero]
          constructor
          · rintro h ⟨u, k1, k2, k3⟩
            have := h u
            rw [b, k1, k2, decide_eq_false k3] at this
            cases this
          · intro h u
            rw [b]
            cases e1 : F.testBit u <;> cases e2 : (T r).testBit u <;> try rfl
            by_cases e4 : r = u
            · rw [decide_eq_true e4]; rfl
            · exact absurd ⟨u, e1, e2, e4⟩ h
        refine bX10_hasOddTwo_113 o (by decide) gk_in0 (fun d3 => ?_) (fun d3 d4 => ?_) (fun c _ => gk_inc hn hr c) (fun d3 d4 d5 => ?_) (fun d3 d4 d5 => ⟨?_, rfl⟩)
        · simp (disch := omega) only [ks_le, ks_ltI, ks_eqI, ks_eq0, ks_le14, ks_has, ks_mhas, ks_at, ks_b0, gk_0, gk_1, ks_andn, nx_and, nx_or, nx_xor, ks_shl1, ks_shl2, Classical.not_not, nI_1] at d3
          rw [nI_1]
          refine ih2 (by omega) ?_
          rintro ⟨-, -, -, x, u, k1, k2, k3, k4⟩
          have := (hFt x).mpr k2
          exact hL x (Nat.zero_le x) (by have := ks_bit_lt hF this; omega) ⟨this, u, (hFt u).mpr k3, k4, k1⟩
        · simp (disch := omega) only [ks_le, ks_ltI, ks_eqI, ks_eq0, ks_le14, ks_has, ks_mhas, ks_at, ks_b0, gk_0, gk_1, ks_andn, nx_and, nx_or, nx_xor, ks_shl1, ks_shl2, Classical.not_not, nI_1] at d3
          simp (disch := omega) only [ks_le, ks_ltI, ks_eqI, ks_eq0, ks_le14, ks_has, ks_mhas, ks_at, ks_b0, gk_0, gk_1, ks_andn, nx_and, nx_or, nx_xor, ks_shl1, ks_shl2, Classical.not_not, nI_1] at d4
          rw [nI_1]
          exact ih4 (by omega) (fun h => d4 h.1)
        · simp (disch := omega) only [ks_le, ks_ltI, ks_eqI, ks_eq0, ks_le14, ks_has, ks_mhas, ks_at, ks_b0, gk_0, gk_1, ks_andn, nx_and, nx_or, nx_xor, ks_shl1, ks_shl2, Classical.not_not, nI_1] at d3
          rw [gk_1 (by omega), ks_andn, ks_shl1 _ (by omega), ks_andn, ks_eq0 hlt, hz] at d5
          rw [nI_1]
          exact ih4 (by omega) (fun h => d5 h.2)
        · simp (disch := omega) only [ks_le, ks_ltI, ks_eqI, ks_eq0, ks_le14, ks_has, ks_mhas, ks_at, ks_b0, gk_0, gk_1, ks_andn, nx_and, nx_or, nx_xor, ks_shl1, ks_shl2, Classical.not_not, nI_1] at d3
          simp (disch := omega) only [ks_le, ks_ltI, ks_eqI, ks_eq0, ks_le14, ks_has, ks_mhas, ks_at, ks_b0, gk_0, gk_1, ks_andn, nx_and, nx_or, nx_xor, ks_shl1, ks_shl2, Classical.not_not, nI_1] at d4
          rw [gk_1 (by omega), ks_andn, ks_shl1 _ (by omega), ks_andn, ks_eq0 hlt, hz, Classical.not_not] at d5
          obtain ⟨u, k1, k2, k3⟩ := d5
          rw [ks_bt (show g_pair n T S from ⟨j, i, by omega, by omega, c3, c4, c5, r, u, k3, (hFt r).mp d4, (hFt u).mp k1, k2⟩)]
      · simp (disch := omega) only [ks_le, ks_ltI, ks_eqI, ks_eq0, ks_le14, ks_has, ks_mhas, ks_at, ks_b0, gk_0, gk_1, ks_andn, nx_and, nx_or, nx_xor, ks_shl1, ks_shl2, Classical.not_not, nI_1] at d1
        rw [gk_1 (by omega), gk_1 (by omega), nx_and, nx_and, ks_mhas (by omega) (by omega), ks_b0, hbit] at d2
        rw [nI_1]
        exact ih3 F (by omega) ⟨hF, skip (fun h => d2 ⟨h.2.2.1, h.1, h.2.1⟩)⟩
      · simp (disch := omega) only [ks_le, ks_ltI, ks_eqI, ks_eq0, ks_le14, ks_has, ks_mhas, ks_at, ks_b0, gk_0, gk_1, ks_andn, nx_and, nx_or, nx_xor, ks_shl1, ks_shl2, Classical.not_not, nI_1] at d1
        rw [gk_1 (by omega), gk_1 (by omega), nx_and, nx_and, ks_mhas (by omega) (by omega), ks_b0, Classical.not_not, hbit] at d2
        refine mm_Call.eq (s_isOddM o hw hS (by omega) (by omega) (by omega) c5 d2.2.1 d2.2.2) (by decide) (bX10_hasOddTwo_92 (fun d3 => ?_) (fun d3 => ?_))
        · rw [ks_b0] at d3
          rw [nI_1]
          exact ih3 F (by omega) ⟨hF, skip (fun h => d3 h.2.2.2)⟩
        · rw [ks_b0, Classical.not_not] at d3
          rw [nI_1, ks_shl1 _ (by omega), nx_or]
          refine ih3 _ (by omega) ⟨ks_or_lt hF (ks_p2_lt (by omega)), fun u => ?_⟩
          rw [Nat.testBit_or, Bool.or_eq_true, hIF u, ks_p2, decide_eq_true_eq]
          constructor
          · rintro (⟨h1, h2⟩ | rfl)
            · exact ⟨by omega, h2⟩
            · exact ⟨by omega, d2.2.1, d2.2.2, d2.1, d3⟩
          · rintro ⟨h1, h2⟩
            rcases Nat.lt_or_ge u t with q | q
            · exact Or.inl ⟨q, h2⟩
            · exact Or.inr (by omega)
    · simp (disch := omega) only [ks_le, ks_ltI, ks_eqI, ks_eq0, ks_le14, ks_has, ks_mhas, ks_at, ks_b0, gk_0, gk_1, ks_andn, nx_and, nx_or, nx_xor, ks_shl1, ks_shl2, Classical.not_not, nI_1] at c2
      rw [gk_1 (by omega), ks_mhas (by omega) (by omega), ks_b0] at c5
      rw [nI_1]
      exact ih2 (by omega) (fun h => c5 h.2.2.1)
theorem s_isCovered {M : mm_Mem} {a n S : Nat} {T : Nat → Nat} (o : ra M a n T) (hw : gw n T) (hS : S < 2 ^ n) : mm_S 3 mX10_isCovered 0 0 [.ref a, .int (nI S)] M (mm_Eq (some (.int (ks_b (g_cov n T S)))) M) := by
  refine mm_S.of rfl rfl (Nat.le_of_ble_eq_true rfl) mm_ndi (bX10_isCovered_0 (mm_Call.eq (s_hasClawM o hw hS) (by decide) (bX10_isCovered_5 (fun c => ⟨?_, rfl⟩) (fun c => mm_Call.eq (s_hasOddTwo o hw hS) (by decide) (bX10_isCovered_13 (fun c1 => ⟨?_, rfl⟩) (fun c1 => ⟨?_, rfl⟩))))))
  · rw [ks_b0, Classical.not_not] at c
    rw [ks_bf (fun h : g_cov n T S => h.1 c)]
  · rw [ks_b0, Classical.not_not] at c1
    rw [ks_bf (fun h : g_cov n T S => h.2 c1)]
  · rw [ks_b0] at c c1
    rw [ks_bt (show g_cov n T S from ⟨c, c1⟩)]
