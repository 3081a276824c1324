/-! THE CLASS: whether a set has a cover -/
def g_claw (n : Nat) (T : Nat → Nat) (S : Nat) : Prop := ∃ c, c < n ∧ S.testBit c = true ∧ g_three n T (T c &&& S)
theorem s_hasClaw {M : mm_Mem} {k n S : Nat} {T : Nat → Nat} (o : na M k n T) (hw : gw n T) (hS : S < 2 ^ n) : mm_S 2 mX3_hasClaw 0 0 [.ref k, .int (nI S)] M (mm_Eq (some (.int (ks_b (g_claw n T S)))) M) := by
  have hn := hw.1
  have hS' := ks_p14 hn hS
  refine mm_S.of rfl rfl (Nat.le_of_ble_eq_true rfl) mm_ndi (bX3_hasClaw_0 ?_)
  refine srch (G := fun j => mm_X mX3_hasClaw 2 none (0, 0) 2 [.ref k, .int (nI S), .int (nI j)] [] M (mm_Eq (some (.int (ks_b (g_claw n T S)))) M)) (P := fun c => S.testBit c = true ∧ g_three n T (T c &&& S)) (Nat.zero_le n) ?_
  intro j h0 hj hI ih
  refine bX3_hasClaw_2 o.1 o.2 (by decide) (fun c => ⟨?_, rfl⟩) (fun c c1 => ?_) (fun c c1 => ?_)
  · simp (disch := omega) only [ks_le, ks_ltI, ks_eqI, ks_eq0, ks_le14, ks_has, ks_mhas, ks_at, ks_b0, gk_0, gk_1, ks_andn, nx_and, nx_or, nx_xor, ks_shl1, ks_shl2, Classical.not_not, nI_1] at c
    rw [ks_bf]
    rintro ⟨a, h1, h2⟩
    exact hI a (Nat.zero_le a) (by omega) h2
  · simp (disch := omega) only [ks_le, ks_ltI, ks_eqI, ks_eq0, ks_le14, ks_has, ks_mhas, ks_at, ks_b0, gk_0, gk_1, ks_andn, nx_and, nx_or, nx_xor, ks_shl1, ks_shl2, Classical.not_not, nI_1] at c
    simp (disch := omega) only [ks_le, ks_ltI, ks_eqI, ks_eq0, ks_le14, ks_has, ks_mhas, ks_at, ks_b0, gk_0, gk_1, ks_andn, nx_and, nx_or, nx_xor, ks_shl1, ks_shl2, Classical.not_not, nI_1] at c1
    rw [nI_1]
    exact ih (by omega) (fun h => c1 h.1)
  · simp (disch := omega) only [ks_le, ks_ltI, ks_eqI, ks_eq0, ks_le14, ks_has, ks_mhas, ks_at, ks_b0, gk_0, gk_1, ks_andn, nx_and, nx_or, nx_xor, ks_shl1, ks_shl2, Classical.not_not, nI_1] at c
    simp (disch := omega) only [ks_le, ks_ltI, ks_eqI, ks_eq0, ks_le14, ks_has, ks_mhas, ks_at, ks_b0, gk_0, gk_1, ks_andn, nx_and, nx_or, nx_xor, ks_shl1, ks_shl2, Classical.not_not, nI_1] at c1
    rw [ks_at (by decide) (by omega), nx_and]
    refine mm_Call.eq (s_hasThreeUntied o hn (ks_and2 hS)) (by decide) (bX3_hasClaw_32 (fun c2 => ?_) (fun c2 => ⟨?_, rfl⟩))
    · rw [ks_b0] at c2
      rw [nI_1]
      exact ih (by omega) (fun h => c2 h.2)
    · rw [ks_b0, Classical.not_not] at c2
      rw [ks_bt (show g_claw n T S from ⟨j, by omega, c1, c2⟩)]
/-- the third points of the odd triangles on a line -/
def g_tip (T : Nat → Nat) (S a b t : Nat) : Prop := (T a).testBit t = true ∧ (T b).testBit t = true ∧ S.testBit t = true ∧ ∃ x, S.testBit x = true ∧ (((T a).testBit x ^^ (T b).testBit x) ^^ (T t).testBit x) = true
theorem s_oddTips {M : mm_Mem} {k n S a b : Nat} {T : Nat → Nat} (o : na M k n T) (hw : gw n T) (hS : S < 2 ^ n) (ha : a < n) (hb : b < n) : mm_S 1 mX3_oddTips 0 0 [.ref k, .int (nI a), .int (nI b), .int (nI S)] M (fun r M' => M' = M ∧ ∃ F, r = some (.int (nI F)) ∧ F < 2 ^ n ∧ ∀ t, F.testBit t = true ↔ g_tip T S a b t) := by
  have hn := hw.1
  have hS' := ks_p14 hn hS
  have hTa := hw.2.1 a
  have hTb := hw.2.1 b
  have hTa' := ks_p14 hn hTa
  have hTb' := ks_p14 hn hTb
  refine mm_S.of rfl rfl (Nat.le_of_ble_eq_true rfl) (fun r M' h x e => by obtain ⟨-, F, h2, -⟩ := h; rw [h2] at e; cases e) (bX3_oddTips_0 o.1 o.2 (by decide) ?_)
  rw [ks_at (by decide) (by omega), ks_at (by decide) (by omega), nx_and, nx_and, nx_xor]
  have hA : T a &&& T b &&& S < 2 ^ n := ks_and2 hS
  have hA' := ks_p14 hn hA
  have hX : T a ^^^ T b < 2 ^ n := ks_xor_lt hTa hTb
  refine fld (G := fun j F => mm_X mX3_oddTips 1 none (0, 0) 46 [.ref k, .null, .null, .int (nI S), .int (nI (T a &&& T b &&& S)), .int (nI (T a ^^^ T b)), .int (nI F), .int (nI j)] [] M (fun r M' => M' = M ∧ ∃ F, r = some (.int (nI F)) ∧ F < 2 ^ n ∧ ∀ t, F.testBit t = true ↔ g_tip T S a b t)) (I := fun j F => F < 2 ^ n ∧ ∀ t, F.testBit t = true ↔ (t < j ∧ g_tip T S a b t)) (Nat.zero_le n) ⟨Nat.pow_pos (by decide), fun t => by simp⟩ ?_
  intro j F h0 hj hI ih
  obtain ⟨hF, hI⟩ := hI
  have tip_lt : ∀ t, g_tip T S a b t → t < n := fun t h => ks_bit_lt hS h.2.2.1
  have hz : ∀ j, j < n → (((T a ^^^ T b) ^^^ T j) &&& S = 0 ↔ ¬ ∃ x, S.testBit x = true ∧ (((T a).testBit x ^^ (T b).testBit x) ^^ (T j).testBit x) = true) := by
    intro j hj
    rw [ks_zero]
    constructor
    · rintro h ⟨x, h1, h2⟩
      have := h x
      rw [Nat.testBit_and, Nat.testBit_xor, Nat.testBit_xor, h1, h2] at this
      cases this
    · intro h x
      rw [Nat.testBit_and, Nat.testBit_xor, Nat.testBit_xor]
      cases h1 : S.testBit x with
      | false => rw [Bool.and_false]
      | true =>
        cases h2 : (((T a).testBit x ^^ (T b).testBit x) ^^ (T j).testBit x) with
        | false => rfl
        | true => exact absurd ⟨x, h1, h2⟩ h
  have hbit : ∀ j, (T a &&& T b &&& S).testBit j = true ↔ ((T a).testBit j = true ∧ (T b).testBit j = true ∧ S.testBit j = true) := by
    intro j
    rw [Nat.testBit_and, Nat.testBit_and, Bool.and_eq_true, Bool.and_eq_true, and_assoc]
  have skip : j < n → ¬ g_tip T S a b j → ∀ t, F.testBit t = true ↔ (t < j + 1 ∧ g_tip T S a b t) := by
    intro hlt hg t
    rw [hI t]
    constructor
    · rintro ⟨h1, h2⟩
      exact ⟨by omega, h2⟩
    · rintro ⟨h1, h2⟩
      rcases Nat.lt_or_ge t j with q | q
      · exact ⟨q, h2⟩
      · obtain rfl : t = j := by omega
        exact absurd h2 hg
  refine bX3_oddTips_46 o.1 o.2 (by decide) (fun c => ?_) (fun c c1 => ?_) (fun c c1 c2 => ?_) (fun c c1 c2 => ?_)
  · simp (disch := omega) only [ks_le, ks_ltI, ks_eqI, ks_eq0, ks_le14, ks_has, ks_mhas, ks_at, ks_b0, gk_0, gk_1, ks_andn, nx_and, nx_or, nx_xor, ks_shl1, ks_shl2, Classical.not_not, nI_1] at c
    refine ⟨rfl, F, rfl, hF, fun t => ?_⟩
    rw [hI t]
    exact ⟨fun h => h.2, fun h => ⟨by have := tip_lt t h; omega, h⟩⟩
  · simp (disch := omega) only [ks_le, ks_ltI, ks_eqI, ks_eq0, ks_le14, ks_has, ks_mhas, ks_at, ks_b0, gk_0, gk_1, ks_andn, nx_and, nx_or, nx_xor, ks_shl1, ks_shl2, Classical.not_not, nI_1] at c
    simp (disch := omega) only [ks_le, ks_ltI, ks_eqI, ks_eq0, ks_le14, ks_has, ks_mhas, ks_at, ks_b0, gk_0, gk_1, ks_andn, nx_and, nx_or, nx_xor, ks_shl1, ks_shl2, Classical.not_not, nI_1] at c1
    rw [nI_1]
    exact ih F (by omega) ⟨hF, skip (by omega) (fun h => c1 ((hbit j).mpr ⟨h.1, h.2.1, h.2.2.1⟩))⟩
  · simp (disch := omega) only [ks_le, ks_ltI, ks_eqI, ks_eq0, ks_le14, ks_has, ks_mhas, ks_at, ks_b0, gk_0, gk_1, ks_andn, nx_and, nx_or, nx_xor, ks_shl1, ks_shl2, Classical.not_not, nI_1] at c
    have hTj := ks_p14 hn (hw.2.1 j)
    rw [ks_at (by decide) (by omega), nx_xor, nx_and, ks_eq0 (by have := ks_p14 hn (ks_and2 (a := (T a ^^^ T b) ^^^ T j) hS); omega), hz j (by omega)] at c2
    rw [nI_1]
    exact ih F (by omega) ⟨hF, skip (by omega) (fun h => c2 h.2.2.2)⟩
  · simp (disch := omega) only [ks_le, ks_ltI, ks_eqI, ks_eq0, ks_le14, ks_has, ks_mhas, ks_at, ks_b0, gk_0, gk_1, ks_andn, nx_and, nx_or, nx_xor, ks_shl1, ks_shl2, Classical.not_not, nI_1] at c
    simp (disch := omega) only [ks_le, ks_ltI, ks_eqI, ks_eq0, ks_le14, ks_has, ks_mhas, ks_at, ks_b0, gk_0, gk_1, ks_andn, nx_and, nx_or, nx_xor, ks_shl1, ks_shl2, Classical.not_not, nI_1] at c1
    have hTj := ks_p14 hn (hw.2.1 j)
    rw [ks_at (by decide) (by omega), nx_xor, nx_and, ks_eq0 (by have := ks_p14 hn (ks_and2 (a := (T a ^^^ T b) ^^^ T j) hS); omega), hz j (by omega), Classical.not_not] at c2
    rw [nI_1, ks_shl1 _ (by omega), nx_or]
    refine ih _ (by omega) ⟨ks_or_lt hF (ks_p2_lt (by omega)), fun t => ?_⟩
    rw [Nat.testBit_or, Bool.or_eq_true, hI t, ks_p2, decide_eq_true_eq]
    have hg : g_tip T S a b j := by
      obtain ⟨h1, h2, h3⟩ := (hbit j).mp c1
      exact ⟨h1, h2, h3, c2⟩
    constructor
    · rintro (⟨h1, h2⟩ | rfl)
      · exact ⟨by omega, h2⟩
      · exact ⟨by omega, hg⟩
    · rintro ⟨h1, h2⟩
      rcases Nat.lt_or_ge t j with q | q
      · exact Or.inl ⟨q, h2⟩
      · exact Or.inr (by omega)
def g_pair (n : Nat) (T : Nat → Nat) (S : Nat) : Prop := ∃ a b, a < b ∧ b < n ∧ S.testBit a = true ∧ S.testBit b = true ∧ (T a).testBit b = true ∧ ∃ t u, t ≠ u ∧ g_tip T S a b t ∧ g_tip T S a b u ∧ (T t).testBit u = false
theorem g_each_of {n : Nat} {T : Nat → Nat} {F : Nat} (hw : gw n T) (hF : F < 2 ^ n) : g_each T F ↔ ¬ ∃ t u, t ≠ u ∧ F.testBit t = true ∧ F.testBit u = true ∧ (T t).testBit u = false := by
  have hF' := ks_p14 hw.1 hF
  constructor
  · rintro h ⟨t, u, h1, h2, h3, h4⟩
    have ht : t < n := ks_bit_lt hF h2
    have e := h t (by have := hw.1; omega) h2
    have e2 : (ks_nd F (T t)).testBit u = true := by rw [ks_nd_bit (by omega), h3, h4]; rfl
    rw [e, ks_p2, decide_eq_true_eq] at e2
    exact h1 e2
  · intro h p hp hb
    apply ks_ext
    intro i
    rw [ks_nd_bit (by omega), ks_p2]
    by_cases e : p = i
    · subst e
      rw [hb, hw.2.2.2.2 p, decide_eq_true rfl]
      rfl
    · rw [decide_eq_false e]
      cases h1 : F.testBit i with
      | false => rfl
      | true =>
        cases h2 : (T p).testBit i with
        | true => rfl
        | false => exact absurd ⟨p, i, e, hb, h1, h2⟩ h
theorem s_hasOddPair {M : mm_Mem} {k n S : Nat} {T : Nat → Nat} (o : na M k n T) (hw : gw n T) (hS : S < 2 ^ n) : mm_S 2 mX3_hasOddPair 0 0 [.ref k, .int (nI S)] M (mm_Eq (some (.int (ks_b (g_pair n T S)))) M) := by
  have hn := hw.1
  have hS' := ks_p14 hn hS
  refine mm_S.of rfl rfl (Nat.le_of_ble_eq_true rfl) mm_ndi (bX3_hasOddPair_0 ?_)
  refine srch (G := fun j => mm_X mX3_hasOddPair 2 none (0, 0) 2 [.ref k, .int (nI S), .int (nI j), .null, .null] [] M (mm_Eq (some (.int (ks_b (g_pair n T S)))) M)) (P := fun a => ∃ b, a < b ∧ b < n ∧ S.testBit a = true ∧ S.testBit b = true ∧ (T a).testBit b = true ∧ ∃ t u, t ≠ u ∧ g_tip T S a b t ∧ g_tip T S a b u ∧ (T t).testBit u = false) (Nat.zero_le n) ?_
  intro j h0 hj hI ih
  have hTj := hw.2.1 j
  have hTj' := ks_p14 hn hTj
  refine bX3_hasOddPair_2 o.1 o.2 (by decide) (fun c => ⟨?_, rfl⟩) (fun c c1 => ?_) (fun c c1 => ?_)
  · simp (disch := omega) only [ks_le, ks_ltI, ks_eqI, ks_eq0, ks_le14, ks_has, ks_mhas, ks_at, ks_b0, gk_0, gk_1, ks_andn, nx_and, nx_or, nx_xor, ks_shl1, ks_shl2, Classical.not_not, nI_1] at c
    rw [ks_bf]
    rintro ⟨a, b, h1, h2, h3⟩
    exact hI a (Nat.zero_le a) (by omega) ⟨b, h1, h2, h3⟩
  · simp (disch := omega) only [ks_le, ks_ltI, ks_eqI, ks_eq0, ks_le14, ks_has, ks_mhas, ks_at, ks_b0, gk_0, gk_1, ks_andn, nx_and, nx_or, nx_xor, ks_shl1, ks_shl2, Classical.not_not, nI_1] at c
    simp (disch := omega) only [ks_le, ks_ltI, ks_eqI, ks_eq0, ks_le14, ks_has, ks_mhas, ks_at, ks_b0, gk_0, gk_1, ks_andn, nx_and, nx_or, nx_xor, ks_shl1, ks_shl2, Classical.not_not, nI_1] at c1
    rw [ks_at (by decide) (by omega), nx_and, nI_1]
    have hO := ks_p14 hn (ks_and2 (a := T j) hS)
    refine srch (G := fun i => mm_X mX3_hasOddPair 2 none (0, 0) 37 [.ref k, .int (nI S), .int (nI j), .int (nI (T j &&& S)), .int (nI i)] [] M (mm_Eq (some (.int (ks_b (g_pair n T S)))) M)) (P := fun b => S.testBit j = true ∧ S.testBit b = true ∧ (T j).testBit b = true ∧ ∃ t u, t ≠ u ∧ g_tip T S j b t ∧ g_tip T S j b u ∧ (T t).testBit u = false) (show j + 1 ≤ n by omega) ?_
    intro i h1 hi hJ ih2
    refine bX3_hasOddPair_37 o.1 (by decide) (fun c2 => ?_) (fun c2 c3 => ?_) (fun c2 c3 => ?_)
    · simp (disch := omega) only [ks_le, ks_ltI, ks_eqI, ks_eq0, ks_le14, ks_has, ks_mhas, ks_at, ks_b0, gk_0, gk_1, ks_andn, nx_and, nx_or, nx_xor, ks_shl1, ks_shl2, Classical.not_not, nI_1] at c2
      rw [nI_1]
      refine ih (by omega) ?_
      rintro ⟨b, g1, g2, g3⟩
      exact hJ b (by omega) (by omega) g3
    · simp (disch := omega) only [ks_le, ks_ltI, ks_eqI, ks_eq0, ks_le14, ks_has, ks_mhas, ks_at, ks_b0, gk_0, gk_1, ks_andn, nx_and, nx_or, nx_xor, ks_shl1, ks_shl2, Classical.not_not, nI_1] at c2
      simp (disch := omega) only [ks_le, ks_ltI, ks_eqI, ks_eq0, ks_le14, ks_has, ks_mhas, ks_at, ks_b0, gk_0, gk_1, ks_andn, nx_and, nx_or, nx_xor, ks_shl1, ks_shl2, Classical.not_not, nI_1] at c3
      rw [nI_1]
      refine ih2 (by omega) (fun h => c3 ?_)
      rw [Nat.testBit_and, h.2.1, h.2.2.1]
      rfl
    · simp (disch := omega) only [ks_le, ks_ltI, ks_eqI, ks_eq0, ks_le14, ks_has, ks_mhas, ks_at, ks_b0, gk_0, gk_1, ks_andn, nx_and, nx_or, nx_xor, ks_shl1, ks_shl2, Classical.not_not, nI_1] at c2
      simp (disch := omega) only [ks_le, ks_ltI, ks_eqI, ks_eq0, ks_le14, ks_has, ks_mhas, ks_at, ks_b0, gk_0, gk_1, ks_andn, nx_and, nx_or, nx_xor, ks_shl1, ks_shl2, Classical.not_not, nI_1] at c3
      rw [Nat.testBit_and, Bool.and_eq_true] at c3
      refine mm_Call.of (s_oddTips o hw hS (by omega) (by omega)) (by decide) ?_
      rintro _ _ ⟨rfl, F, rfl, hF, hFt⟩
      refine bX3_hasOddPair_67 (mm_Call.eq (s_eachTwo o.2 (ks_p14 hn hF)) (by decide) ?_)
      have key : g_each T F ↔ ¬ ∃ t u, t ≠ u ∧ g_tip T S j i t ∧ g_tip T S j i u ∧ (T t).testBit u = false := by
        rw [g_each_of hw hF]
        simp only [hFt]
      refine bX3_hasOddPair_70 (fun c4 => ?_) (fun c4 => ⟨?_, rfl⟩)
      · rw [ks_b0, Classical.not_not, key] at c4
        rw [nI_1]
        exact ih2 (by omega) (fun h => c4 h.2.2.2)
      · rw [ks_b0, key, Classical.not_not] at c4
        rw [ks_bt (show g_pair n T S from ⟨j, i, by omega, by omega, c1, c3.2, c3.1, c4⟩)]
  · simp (disch := omega) only [ks_le, ks_ltI, ks_eqI, ks_eq0, ks_le14, ks_has, ks_mhas, ks_at, ks_b0, gk_0, gk_1, ks_andn, nx_and, nx_or, nx_xor, ks_shl1, ks_shl2, Classical.not_not, nI_1] at c
    simp (disch := omega) only [ks_le, ks_ltI, ks_eqI, ks_eq0, ks_le14, ks_has, ks_mhas, ks_at, ks_b0, gk_0, gk_1, ks_andn, nx_and, nx_or, nx_xor, ks_shl1, ks_shl2, Classical.not_not, nI_1] at c1
    rw [nI_1]
    refine ih (by omega) ?_
    rintro ⟨b, g1, g2, g3, -⟩
    exact c1 g3
/-- there is a cover (van Rooij and Wilf) -/
def g_cov (n : Nat) (T : Nat → Nat) (S : Nat) : Prop := ¬ g_claw n T S ∧ ¬ g_pair n T S
theorem s_hasCover {M : mm_Mem} {k n S : Nat} {T : Nat → Nat} (o : na M k n T) (hw : gw n T) (hS : S < 2 ^ n) : mm_S 3 mX3_hasCover 0 0 [.ref k, .int (nI S)] M (mm_Eq (some (.int (ks_b (g_cov n T S)))) M) := by
  refine mm_S.of rfl rfl (Nat.le_of_ble_eq_true rfl) mm_ndi (bX3_hasCover_0 o.1 (mm_Call.eq (s_hasClaw o hw hS) (by decide) (bX3_hasCover_5 o.1 (fun c => ⟨?_, rfl⟩) (fun c => mm_Call.eq (s_hasOddPair o hw hS) (by decide) (bX3_hasCover_13 (fun c1 => ⟨?_, rfl⟩) (fun c1 => ⟨?_, rfl⟩))))))
  · rw [ks_b0, Classical.not_not] at c
    rw [ks_bf (fun h : g_cov n T S => h.1 c)]
  · rw [ks_b0, Classical.not_not] at c1
    rw [ks_bf (fun h : g_cov n T S => h.2 c1)]
  · rw [ks_b0] at c c1
    rw [ks_bt (show g_cov n T S from ⟨c, c1⟩)]
