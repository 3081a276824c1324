/-! TRIANGLES AND CLAWS, counted -/
def ks_o : Bool → Int32
  | false => 0
  | true => 1
def g_tri1 (od : Bool) (n : Nat) (T : Nat → Nat) (a b e : Nat) : Prop := a < b ∧ b < e ∧ (T a).testBit b = true ∧ (T a).testBit e = true ∧ (T b).testBit e = true ∧ (od = true → g_odd T (2 ^ n - 1) a b e)
noncomputable def g_triC (od : Bool) (n : Nat) (T : Nat → Nat) (a b : Nat) : Nat := gs (fun e => g1 (g_tri1 od n T a b e)) n
noncomputable def g_triB (od : Bool) (n : Nat) (T : Nat → Nat) (a : Nat) : Nat := gs (g_triC od n T a) n
noncomputable def g_tri (od : Bool) (n : Nat) (T : Nat → Nat) : Nat := gs (g_triB od n T) n
theorem ks_am (n : Nat) : 2 ^ n - 1 < 2 ^ n := by
  have := Nat.pow_pos (a := 2) (n := n) (by decide)
  omega
theorem s_triangles {M : mm_Mem} {k n : Nat} {T : Nat → Nat} (od : Bool) (o : na M k n T) (hw : gw n T) : mm_S 2 mX3_triangles 0 0 [.ref k, .int (ks_o od)] M (mm_Eq (some (.int (nI (g_tri od n T)))) M) := by
  have hn := hw.1
  refine mm_S.of rfl rfl (Nat.le_of_ble_eq_true rfl) mm_ndi (bX3_triangles_0 ?_)
  refine fld (s := 0) (G := fun j v => mm_X mX3_triangles 2 none (0, 0) 4 [.ref k, .int (ks_o od), .int (nI v), .int (nI j), .null, .null] [] M (mm_Eq (some (.int (nI (g_tri od n T)))) M)) (I := fun j v => v = gs (g_triB od n T) j) (Nat.zero_le n) rfl ?_
  intro a v _ ha hI ih
  subst hI
  have ta := gw_ok hw a
  refine bX3_triangles_4 o.1 (fun c => ⟨?_, rfl⟩) (fun c => ?_)
  · simp (disch := omega) only [ks_le, ks_ltI, ks_eqI, ks_eq0, ks_le14, ks_has, ks_mhas, ks_at, ks_b0, gk_0, gk_1, ks_andn, nx_and, nx_or, nx_xor, ks_shl1, ks_shl2, Classical.not_not, nI_1] at c
    obtain rfl : a = n := by omega
    rfl
  · simp (disch := omega) only [ks_le, ks_ltI, ks_eqI, ks_eq0, ks_le14, ks_has, ks_mhas, ks_at, ks_b0, gk_0, gk_1, ks_andn, nx_and, nx_or, nx_xor, ks_shl1, ks_shl2, Classical.not_not, nI_1] at c
    rw [nI_1]
    refine fld (s := a + 1) (n := n) (G := fun j v => mm_X mX3_triangles 2 none (0, 0) 17 [.ref k, .int (ks_o od), .int (nI v), .int (nI a), .int (nI j), .null] [] M (mm_Eq (some (.int (nI (g_tri od n T)))) M)) (I := fun j v => v = gs (g_triB od n T) a + gs (g_triC od n T a) j) (by omega) ?_ ?_
    · rw [gs_z (f := g_triC od n T a)]
      · rfl
      intro i hi
      exact gs_z fun e _ => g1_f fun h => by have := h.1; omega
    · intro b v hab hb hI2 ih2
      subst hI2
      have tb := gw_ok hw b
      have step : ∀ x, x = g_triC od n T a b → gs (g_triB od n T) a + gs (g_triC od n T a) b + x = gs (g_triB od n T) a + gs (g_triC od n T a) (b + 1) := by
        intro x hx
        rw [hx, Nat.add_assoc]
        rfl
      refine bX3_triangles_17 o.1 o.2 (by decide) (fun c2 => ?_) (fun c2 c3 => ?_) (fun c2 c3 c4 => ?_) (fun c2 c3 c4 => ?_)
      · simp (disch := omega) only [ks_le, ks_ltI, ks_eqI, ks_eq0, ks_le14, ks_has, ks_mhas, ks_at, ks_b0, gk_0, gk_1, ks_andn, nx_and, nx_or, nx_xor, ks_shl1, ks_shl2, Classical.not_not, nI_1] at c2
        obtain rfl : b = n := by omega
        rw [nI_1]
        exact ih _ (by omega) rfl
      · simp (disch := omega) only [ks_le, ks_ltI, ks_eqI, ks_eq0, ks_le14, ks_has, ks_mhas, ks_at, ks_b0, gk_0, gk_1, ks_andn, nx_and, nx_or, nx_xor, ks_shl1, ks_shl2, Classical.not_not, nI_1] at c2
        simp (disch := omega) only [ks_le, ks_ltI, ks_eqI, ks_eq0, ks_le14, ks_has, ks_mhas, ks_at, ks_b0, gk_0, gk_1, ks_andn, nx_and, nx_or, nx_xor, ks_shl1, ks_shl2, Classical.not_not, nI_1] at c3
        rw [nI_1]
        refine ih2 _ (by omega) ?_
        rw [← step 0 (gs_z fun e _ => g1_f fun h => c3 h.2.2.1).symm, Nat.add_zero]
      · simp (disch := omega) only [ks_le, ks_ltI, ks_eqI, ks_eq0, ks_le14, ks_has, ks_mhas, ks_at, ks_b0, gk_0, gk_1, ks_andn, nx_and, nx_or, nx_xor, ks_shl1, ks_shl2, Classical.not_not, nI_1] at c2
        simp (disch := omega) only [ks_le, ks_ltI, ks_eqI, ks_eq0, ks_le14, ks_has, ks_mhas, ks_at, ks_b0, gk_0, gk_1, ks_andn, nx_and, nx_or, nx_xor, ks_shl1, ks_shl2, Classical.not_not, nI_1] at c3
        have e : od = false := by cases od with
          | false => rfl
          | true => exact absurd c4 (by decide)
        subst e
        have hE : T a &&& T b &&& ks_bh b < 2 ^ n := ks_and_lt (ks_and_lt (hw.2.1 a))
        rw [ks_at (by decide) (by omega), ks_at (by decide) (by omega), ks_shl2 _ (by omega), nx_and, nx_and, ks_cnt (ks_p14 hn hE), nI_add, nI_1]
        refine ih2 _ (by omega) (step _ ?_)
        rw [ks_popn hn hE]
        refine gs_eq fun e he => g1_c ?_
        rw [Nat.testBit_and, Nat.testBit_and, ks_bh_bit (by omega)]
        simp only [Bool.and_eq_true, decide_eq_true_eq]
        exact ⟨fun h => ⟨by omega, h.2, c3, h.1.1, h.1.2, fun q => by cases q⟩, fun h => ⟨⟨h.2.2.2.1, h.2.2.2.2.1⟩, h.2.1⟩⟩
      · simp (disch := omega) only [ks_le, ks_ltI, ks_eqI, ks_eq0, ks_le14, ks_has, ks_mhas, ks_at, ks_b0, gk_0, gk_1, ks_andn, nx_and, nx_or, nx_xor, ks_shl1, ks_shl2, Classical.not_not, nI_1] at c2
        simp (disch := omega) only [ks_le, ks_ltI, ks_eqI, ks_eq0, ks_le14, ks_has, ks_mhas, ks_at, ks_b0, gk_0, gk_1, ks_andn, nx_and, nx_or, nx_xor, ks_shl1, ks_shl2, Classical.not_not, nI_1] at c3
        have e : od = true := by cases od with
          | false => exact absurd rfl c4
          | true => rfl
        subst e
        rw [ks_all n (by omega)]
        refine mm_Call.of (s_oddTips o hw (ks_am n) (by omega) (by omega)) (by decide) ?_
        rintro _ _ ⟨rfl, D, rfl, hD, hbit⟩
        refine bX3_triangles_51 (by decide) ?_
        have hE : D &&& ks_bh b < 2 ^ n := ks_and_lt hD
        rw [ks_shl2 _ (by omega), nx_and, ks_cnt (ks_p14 hn hE), nI_add, nI_1]
        refine ih2 _ (by omega) (step _ ?_)
        rw [ks_popn hn hE]
        refine gs_eq fun e he => g1_c ?_
        rw [Nat.testBit_and, ks_bh_bit (by omega)]
        simp only [Bool.and_eq_true, decide_eq_true_eq]
        rw [hbit]
        exact ⟨fun h => ⟨by omega, h.2, c3, h.1.1, h.1.2.1, fun _ => h.1.2.2.2⟩, fun h => ⟨⟨h.2.2.2.1, h.2.2.2.2.1, by rw [Nat.testBit_two_pow_sub_one, decide_eq_true he], h.2.2.2.2.2 rfl⟩, h.2.1⟩⟩
theorem q_tri {n a b e : Nat} {T : Nat → Nat} (hw : gw n T) (ha : a < n) (hb : b < n) (he : e < n) : qX10_isTriangle (nI a) (nI b) (nI e) (gk_f n T) = ks_b ((T a).testBit b = true ∧ (T a).testBit e = true ∧ (T b).testBit e = true) := by
  have hn := hw.1
  have ta := gw_ok hw a
  have tb := gw_ok hw b
  unfold qX10_isTriangle
  rw [gk_1 (by omega), gk_1 (by omega), ks_mhas (by omega) (by omega), ks_mhas (by omega) (by omega), ks_mhas (by omega) (by omega)]
  by_cases h1 : (T a).testBit b = true
  · rw [if_neg (by rw [ks_b0]; exact fun h => h h1)]
    by_cases h2 : (T a).testBit e = true
    · rw [if_neg (by rw [ks_b0]; exact fun h => h h2)]
      by_cases h3 : (T b).testBit e = true
      · rw [if_neg (by rw [ks_b0]; exact fun h => h h3), ks_bt ⟨h1, h2, h3⟩]
      · rw [if_pos (ks_b0.mpr h3), ks_bf fun h => h3 h.2.2]
    · rw [if_pos (ks_b0.mpr h2), ks_bf fun h => h2 h.2.1]
  · rw [if_pos (ks_b0.mpr h1), ks_bf fun h => h1 h.1]
theorem s_trianglesM {M : mm_Mem} {F : Nat → Int32} {w : Int64} {n : Nat} {T : Nat → Nat} (od : Bool) (h : mo M F w) (o : ra M 33 n T) (hw : gw n T) : mm_S 3 mX10_triangles 0 0 [.ref 31, .int (ks_o od)] M (mm_Eq (some (.int (nI (g_tri od n T)))) M) := by
  have hn := hw.1
  have f10 := h.r 10 33 (by decide)
  refine mm_S.of rfl rfl (Nat.le_of_ble_eq_true rfl) mm_ndi (bX10_triangles_0 ?_)
  refine fld (s := 0) (G := fun j v => mm_X mX10_triangles 3 none (0, 0) 4 [.ref 31, .int (ks_o od), .int (nI v), .int (nI j), .null, .null] [] M (mm_Eq (some (.int (nI (g_tri od n T)))) M)) (I := fun j v => v = gs (g_triB od n T) j) (Nat.zero_le n) rfl ?_
  intro a v _ ha hI ih
  subst hI
  have ta := gw_ok hw a
  refine bX10_triangles_4 o f10 gk_in0 (fun c => ⟨?_, rfl⟩) (fun c => ?_)
  · rw [gk_0, ks_le (by omega) (by omega)] at c
    obtain rfl : a = n := by omega
    rfl
  have ca := c
  rw [gk_0, ks_le (by omega) (by omega)] at c
  rw [nI_1]
  refine fld (s := a + 1) (n := n) (G := fun j v => mm_X mX10_triangles 3 none (0, 0) 19 [.ref 31, .int (ks_o od), .int (nI v), .int (nI a), .int (nI j), .null] [] M (mm_Eq (some (.int (nI (g_tri od n T)))) M)) (I := fun j v => v = gs (g_triB od n T) a + gs (g_triC od n T a) j) (by omega) ?_ ?_
  · rw [gs_z (f := g_triC od n T a)]
    · rfl
    intro i hi
    exact gs_z fun e _ => g1_f fun h => by have := h.1; omega
  intro b v hab hb hI2 ih2
  subst hI2
  have tb := gw_ok hw b
  refine bX10_triangles_19 o f10 gk_in0 (fun c2 => ?_) (fun c2 => ?_)
  · rw [gk_0, ks_le (by omega) (by omega)] at c2
    obtain rfl : b = n := by omega
    rw [nI_1]
    exact ih _ (by omega) rfl
  rw [gk_0, ks_le (by omega) (by omega)] at c2
  rw [nI_1]
  refine fld (s := b + 1) (n := n) (G := fun j v => mm_X mX10_triangles 3 none (0, 0) 36 [.ref 31, .int (ks_o od), .int (nI v), .int (nI a), .int (nI b), .int (nI j)] [] M (mm_Eq (some (.int (nI (g_tri od n T)))) M)) (I := fun j v => v = gs (g_triB od n T) a + gs (g_triC od n T a) b + gs (fun e => g1 (g_tri1 od n T a b e)) j) (by omega) ?_ ?_
  · rw [gs_z (f := fun e => g1 (g_tri1 od n T a b e))]
    · rfl
    · intro i hi
      exact g1_f fun h => by have := h.2.1; omega
  intro e v hbe he hI3 ih3
  subst hI3
  have no : ¬ g_tri1 od n T a b e → gs (g_triB od n T) a + gs (g_triC od n T a) b + gs (fun e => g1 (g_tri1 od n T a b e)) e = gs (g_triB od n T) a + gs (g_triC od n T a) b + gs (fun e => g1 (g_tri1 od n T a b e)) (e + 1) := by
    intro q
    show _ = _ + (_ + g1 (g_tri1 od n T a b e))
    rw [g1_f q, Nat.add_zero]
  have yes : g_tri1 od n T a b e → gs (g_triB od n T) a + gs (g_triC od n T a) b + gs (fun e => g1 (g_tri1 od n T a b e)) e + 1 = gs (g_triB od n T) a + gs (g_triC od n T a) b + gs (fun e => g1 (g_tri1 od n T a b e)) (e + 1) := by
    intro q
    show _ = _ + (_ + g1 (g_tri1 od n T a b e))
    rw [g1_t q, Nat.add_assoc]
  have lt : ¬ gk_f n T (Int32.toNatClampNeg 0) ≤ nI e → e < n := by
    intro c
    rw [gk_0, ks_le (by omega) (by omega)] at c
    omega
  refine bX10_triangles_36 o f10 (by decide) gk_in0 (fun c3 => ?_) (fun _ => gk_inc hn (by omega) ca) (fun _ _ => gk_inc hn (by omega) ca) (fun _ _ _ => gk_in1 (by omega)) (fun c3 c4 => ?_) (fun c3 c4 c5 => ?_) (fun _ _ _ => gk_in0) (fun c3 c4 c5 => ?_)
  · rw [gk_0, ks_le (by omega) (by omega)] at c3
    obtain rfl : e = n := by omega
    rw [nI_1]
    exact ih2 _ (by omega) (Nat.add_assoc _ _ _)
  · have := lt c3
    rw [q_tri hw (by omega) (by omega) this, ks_b0] at c4
    rw [nI_1]
    exact ih3 _ this (no fun h => c4 ⟨h.2.2.1, h.2.2.2.1, h.2.2.2.2.1⟩)
  · have := lt c3
    rw [q_tri hw (by omega) (by omega) this, ks_b0, Classical.not_not] at c4
    have e : od = false := by cases od with
      | false => rfl
      | true => exact absurd c5 (by decide)
    subst e
    rw [nI_1, nI_1]
    exact ih3 _ this (yes ⟨by omega, by omega, c4.1, c4.2.1, c4.2.2, fun q => by cases q⟩)
  · have := lt c3
    rw [q_tri hw (by omega) (by omega) this, ks_b0, Classical.not_not] at c4
    have e : od = true := by cases od with
      | false => exact absurd rfl c5
      | true => rfl
    subst e
    rw [gk_0, ks_all n (by omega)]
    refine mm_Call.eq (s_isOddM o hw (ks_am n) (by omega) (by omega) this c4.1 c4.2.1 c4.2.2) (by decide) (bX10_triangles_85 (fun c6 => ?_) (fun c6 => ?_))
    · rw [ks_b0] at c6
      rw [nI_1]
      exact ih3 _ this (no fun h => c6 (h.2.2.2.2.2 rfl))
    · rw [ks_b0, Classical.not_not] at c6
      rw [nI_1, nI_1]
      exact ih3 _ this (yes ⟨by omega, by omega, c4.1, c4.2.1, c4.2.2, fun _ => c6⟩)
/-! claws -/
def gcl (T : Nat → Nat) (c a b e : Nat) : Prop := (T c).testBit a = true ∧ (T c).testBit b = true ∧ (T c).testBit e = true ∧ (T a).testBit b = false ∧ (T a).testBit e = false ∧ (T b).testBit e = false
theorem q_clawEnds {n a b c : Nat} {T : Nat → Nat} (hw : gw n T) (ha : a < n) (hb : b < n) : ∃ E, E < 2 ^ n ∧ qX3_clawEnds (nI (T c)) (nI a) (nI b) 14 (gt_f T) = nI E ∧ ∀ e, E.testBit e = true ↔ (b < e ∧ gcl T c a b e) := by
  have hn := hw.1
  have tc := gw_ok hw c
  have ta := gw_ok hw a
  have z : (∀ e, ¬ (b < e ∧ gcl T c a b e)) → ∀ e, (0 : Nat).testBit e = true ↔ (b < e ∧ gcl T c a b e) := fun h e => by
    rw [Nat.zero_testBit]
    exact ⟨fun q => (by cases q), fun q => absurd q (h e)⟩
  unfold qX3_clawEnds
  rw [ks_at (by decide) (by omega), ks_at (by decide) (by omega), ks_has (by omega) (by omega), ks_has (by omega) (by omega), ks_has (by omega) (by omega)]
  by_cases h1 : (T c).testBit a = true
  · rw [if_neg (by rw [ks_b0]; exact fun h => h h1)]
    by_cases h2 : (T c).testBit b = true
    · rw [if_neg (by rw [ks_b0]; exact fun h => h h2)]
      by_cases h3 : (T a).testBit b = true
      · rw [if_neg (by rw [ks_b0]; exact fun h => h h3)]
        exact ⟨0, Nat.pow_pos (by decide), rfl, z fun e h => by rw [h.2.2.2.2.1] at h3; cases h3⟩
      · rw [if_pos (ks_b0.mpr h3), ks_shl2 _ (by omega), nx_and, ks_andn, ks_andn]
        have l0 : T c &&& ks_bh b < 2 ^ n := ks_and_lt (hw.2.1 c)
        have l1 : ks_nd (T c &&& ks_bh b) (T a) < 2 ^ n := Nat.lt_of_le_of_lt (ks_nd_le _ _) l0
        have l2 : ks_nd (ks_nd (T c &&& ks_bh b) (T a)) (T b) < 2 ^ n := Nat.lt_of_le_of_lt (ks_nd_le _ _) l1
        have q0 := ks_p14 hn l0
        have q1 := ks_p14 hn l1
        refine ⟨_, l2, rfl, fun e => ?_⟩
        rw [ks_nd_bit (by omega), ks_nd_bit (by omega), Nat.testBit_and]
        by_cases h4 : (T c).testBit e = true
        · have := ks_bit_lt (hw.2.1 c) h4
          rw [ks_bh_bit (by omega), h4]
          simp only [Bool.true_and, Bool.and_eq_true, decide_eq_true_eq, Bool.not_eq_true']
          rw [Bool.not_eq_true] at h3
          exact ⟨fun h => ⟨h.1.1, h1, h2, h4, h3, h.1.2, h.2⟩, fun h => ⟨⟨h.1, h.2.2.2.2.2.1⟩, h.2.2.2.2.2.2⟩⟩
        · rw [Bool.not_eq_true] at h4
          rw [h4]
          simp only [Bool.false_and, Bool.false_eq_true, false_iff]
          intro h
          rw [h.2.2.2.1] at h4
          cases h4
    · rw [if_pos (ks_b0.mpr h2)]
      exact ⟨0, Nat.pow_pos (by decide), rfl, z fun e h => h2 h.2.2.1⟩
  · rw [if_pos (ks_b0.mpr h1)]
    exact ⟨0, Nat.pow_pos (by decide), rfl, z fun e h => h1 h.2.1⟩
def g_clw1 (T : Nat → Nat) (c a b e : Nat) : Prop := a < b ∧ b < e ∧ gcl T c a b e
noncomputable def g_clwD (n : Nat) (T : Nat → Nat) (c a b : Nat) : Nat := gs (fun e => g1 (g_clw1 T c a b e)) n
noncomputable def g_clwC (n : Nat) (T : Nat → Nat) (c a : Nat) : Nat := gs (g_clwD n T c a) n
noncomputable def g_clwB (n : Nat) (T : Nat → Nat) (c : Nat) : Nat := gs (g_clwC n T c) n
noncomputable def g_claws (n : Nat) (T : Nat → Nat) : Nat := gs (g_clwB n T) n
theorem s_claws {M : mm_Mem} {k n : Nat} {T : Nat → Nat} (o : na M k n T) (hw : gw n T) : mm_S 3 mX3_claws 0 0 [.ref k] M (mm_Eq (some (.int (nI (g_claws n T)))) M) := by
  have hn := hw.1
  refine mm_S.of rfl rfl (Nat.le_of_ble_eq_true rfl) mm_ndi (bX3_claws_0 ?_)
  refine fld (s := 0) (G := fun j v => mm_X mX3_claws 3 none (0, 0) 4 [.ref k, .int (nI v), .int (nI j), .null, .null, .null] [] M (mm_Eq (some (.int (nI (g_claws n T)))) M)) (I := fun j v => v = gs (g_clwB n T) j) (Nat.zero_le n) rfl ?_
  intro c v _ hc hI ih
  subst hI
  refine bX3_claws_4 o.1 o.2 (by decide) (fun c1 => ⟨?_, rfl⟩) (fun c1 => ?_)
  · simp (disch := omega) only [ks_le, ks_ltI, ks_eqI, ks_eq0, ks_le14, ks_has, ks_mhas, ks_at, ks_b0, gk_0, gk_1, ks_andn, nx_and, nx_or, nx_xor, ks_shl1, ks_shl2, Classical.not_not, nI_1] at c1
    obtain rfl : c = n := by omega
    rfl
  simp (disch := omega) only [ks_le, ks_ltI, ks_eqI, ks_eq0, ks_le14, ks_has, ks_mhas, ks_at, ks_b0, gk_0, gk_1, ks_andn, nx_and, nx_or, nx_xor, ks_shl1, ks_shl2, Classical.not_not, nI_1] at c1
  rw [ks_at (by decide) (by omega)]
  refine fld (s := 0) (G := fun j v => mm_X mX3_claws 3 none (0, 0) 24 [.ref k, .int (nI v), .int (nI c), .int (nI (T c)), .int (nI j), .null] [] M (mm_Eq (some (.int (nI (g_claws n T)))) M)) (I := fun j v => v = gs (g_clwB n T) c + gs (g_clwC n T c) j) (Nat.zero_le n) rfl ?_
  intro a v _ ha hI ih2
  subst hI
  refine bX3_claws_24 o.1 (fun c2 => ?_) (fun c2 => ?_)
  · simp (disch := omega) only [ks_le, ks_ltI, ks_eqI, ks_eq0, ks_le14, ks_has, ks_mhas, ks_at, ks_b0, gk_0, gk_1, ks_andn, nx_and, nx_or, nx_xor, ks_shl1, ks_shl2, Classical.not_not, nI_1] at c2
    obtain rfl : a = n := by omega
    rw [nI_1]
    exact ih _ (by omega) rfl
  simp (disch := omega) only [ks_le, ks_ltI, ks_eqI, ks_eq0, ks_le14, ks_has, ks_mhas, ks_at, ks_b0, gk_0, gk_1, ks_andn, nx_and, nx_or, nx_xor, ks_shl1, ks_shl2, Classical.not_not, nI_1] at c2
  rw [nI_1]
  refine fld (s := a + 1) (n := n) (G := fun j v => mm_X mX3_claws 3 none (0, 0) 39 [.ref k, .int (nI v), .int (nI c), .int (nI (T c)), .int (nI a), .int (nI j)] [] M (mm_Eq (some (.int (nI (g_claws n T)))) M)) (I := fun j v => v = gs (g_clwB n T) c + gs (g_clwC n T c) a + gs (g_clwD n T c a) j) (by omega) ?_ ?_
  · rw [gs_z (f := g_clwD n T c a)]
    · rfl
    · intro i hi
      exact gs_z fun e _ => g1_f fun h => by have := h.1; omega
  intro b v hab hb hI ih3
  subst hI
  refine bX3_claws_39 o.1 o.2 (by decide) (fun c3 => ?_) (fun c3 => ?_)
  · simp (disch := omega) only [ks_le, ks_ltI, ks_eqI, ks_eq0, ks_le14, ks_has, ks_mhas, ks_at, ks_b0, gk_0, gk_1, ks_andn, nx_and, nx_or, nx_xor, ks_shl1, ks_shl2, Classical.not_not, nI_1] at c3
    obtain rfl : b = n := by omega
    rw [nI_1]
    exact ih2 _ (by omega) (Nat.add_assoc _ _ _)
  · simp (disch := omega) only [ks_le, ks_ltI, ks_eqI, ks_eq0, ks_le14, ks_has, ks_mhas, ks_at, ks_b0, gk_0, gk_1, ks_andn, nx_and, nx_or, nx_xor, ks_shl1, ks_shl2, Classical.not_not, nI_1] at c3
    obtain ⟨E, hE, e1, e2⟩ := q_clawEnds (c := c) hw (show a < n by omega) (show b < n by omega)
    rw [e1, ks_cnt (ks_p14 hn hE), nI_add, nI_1]
    refine ih3 _ (by omega) ?_
    show _ = _ + (_ + g_clwD n T c a b)
    rw [Nat.add_assoc (gs (g_clwB n T) c + gs (g_clwC n T c) a)]
    congr 2
    rw [ks_popn hn hE]
    exact gs_eq fun e he => g1_c ((e2 e).trans ⟨fun h => ⟨by omega, h⟩, fun h => h.2⟩)
theorem q_isClaw {n c a b e : Nat} {T : Nat → Nat} (hw : gw n T) (hc : c < n) (ha : a < n) (hb : b < n) (he : e < n) : qX10_isClaw (nI c) (nI a) (nI b) (nI e) (gk_f n T) = ks_b (gcl T c a b e) := by
  have hn := hw.1
  have tc := gw_ok hw c
  have ta := gw_ok hw a
  have tb := gw_ok hw b
  unfold qX10_isClaw
  rw [gk_1 (by omega), gk_1 (by omega), gk_1 (by omega), ks_mhas (by omega) (by omega), ks_mhas (by omega) (by omega), ks_mhas (by omega) (by omega), ks_mhas (by omega) (by omega), ks_mhas (by omega) (by omega), ks_mhas (by omega) (by omega)]
  unfold gcl
  by_cases h1 : (T c).testBit a = true
  · rw [if_neg (by rw [ks_b0]; exact fun h => h h1)]
    by_cases h2 : (T c).testBit b = true
    · rw [if_neg (by rw [ks_b0]; exact fun h => h h2)]
      by_cases h3 : (T c).testBit e = true
      · rw [if_neg (by rw [ks_b0]; exact fun h => h h3)]
        by_cases h4 : (T a).testBit b = true
        · rw [if_neg (by rw [ks_b0]; exact fun h => h h4), ks_bf fun h => by rw [h.2.2.2.1] at h4; cases h4]
        · rw [if_pos (ks_b0.mpr h4)]
          by_cases h5 : (T a).testBit e = true
          · rw [if_neg (by rw [ks_b0]; exact fun h => h h5), ks_bf fun h => by rw [h.2.2.2.2.1] at h5; cases h5]
          · rw [if_pos (ks_b0.mpr h5)]
            by_cases h6 : (T b).testBit e = true
            · rw [if_neg (by rw [ks_b0]; exact fun h => h h6), ks_bf fun h => by rw [h.2.2.2.2.2] at h6; cases h6]
            · rw [if_pos (ks_b0.mpr h6), ks_bt]
              rw [Bool.not_eq_true] at h4 h5 h6
              exact ⟨h1, h2, h3, h4, h5, h6⟩
      · rw [if_pos (ks_b0.mpr h3), ks_bf fun h => h3 h.2.2.1]
    · rw [if_pos (ks_b0.mpr h2), ks_bf fun h => h2 h.2.1]
  · rw [if_pos (ks_b0.mpr h1), ks_bf fun h => h1 h.1]
theorem s_clawsM {M : mm_Mem} {F : Nat → Int32} {w : Int64} {n : Nat} {T : Nat → Nat} (h : mo M F w) (o : ra M 33 n T) (hw : gw n T) : mm_S 3 mX10_claws 0 0 [.ref 31] M (mm_Eq (some (.int (nI (g_claws n T)))) M) := by
  have hn := hw.1
  have f10 := h.r 10 33 (by decide)
  have lt : ∀ j, j ≤ n → ¬ gk_f n T (Int32.toNatClampNeg 0) ≤ nI j → j < n := by
    intro j hj c
    rw [gk_0, ks_le (by omega) (by omega)] at c
    omega
  have eq : ∀ j, j ≤ n → gk_f n T (Int32.toNatClampNeg 0) ≤ nI j → j = n := by
    intro j hj c
    rw [gk_0, ks_le (by omega) (by omega)] at c
    omega
  refine mm_S.of rfl rfl (Nat.le_of_ble_eq_true rfl) mm_ndi (bX10_claws_0 ?_)
  refine fld (s := 0) (G := fun j v => mm_X mX10_claws 3 none (0, 0) 4 [.ref 31, .int (nI v), .int (nI j), .null, .null, .null] [] M (mm_Eq (some (.int (nI (g_claws n T)))) M)) (I := fun j v => v = gs (g_clwB n T) j) (Nat.zero_le n) rfl ?_
  intro c v _ hc hI ih
  subst hI
  refine bX10_claws_4 o f10 gk_in0 (fun c1 => ⟨?_, rfl⟩) (fun c1 => ?_)
  · obtain rfl := eq c hc c1
    rfl
  have lc := lt c hc c1
  refine fld (s := 0) (G := fun j v => mm_X mX10_claws 3 none (0, 0) 16 [.ref 31, .int (nI v), .int (nI c), .int (nI j), .null, .null] [] M (mm_Eq (some (.int (nI (g_claws n T)))) M)) (I := fun j v => v = gs (g_clwB n T) c + gs (g_clwC n T c) j) (Nat.zero_le n) rfl ?_
  intro a v _ ha hI ih2
  subst hI
  refine bX10_claws_16 o f10 gk_in0 (fun c2 => ?_) (fun c2 => ?_)
  · obtain rfl := eq a ha c2
    rw [nI_1]
    exact ih _ lc rfl
  have la := lt a ha c2
  rw [nI_1]
  refine fld (s := a + 1) (n := n) (G := fun j v => mm_X mX10_claws 3 none (0, 0) 31 [.ref 31, .int (nI v), .int (nI c), .int (nI a), .int (nI j), .null] [] M (mm_Eq (some (.int (nI (g_claws n T)))) M)) (I := fun j v => v = gs (g_clwB n T) c + gs (g_clwC n T c) a + gs (g_clwD n T c a) j) (by omega) ?_ ?_
  · rw [gs_z (f := g_clwD n T c a)]
    · rfl
    · intro i hi
      exact gs_z fun e _ => g1_f fun h => by have := h.1; omega
  intro b v hab hb hI ih3
  subst hI
  refine bX10_claws_31 o f10 gk_in0 (fun c3 => ?_) (fun c3 => ?_)
  · obtain rfl := eq b hb c3
    rw [nI_1]
    exact ih2 _ la (Nat.add_assoc _ _ _)
  have lb := lt b hb c3
  rw [nI_1]
  refine fld (s := b + 1) (n := n) (G := fun j v => mm_X mX10_claws 3 none (0, 0) 48 [.ref 31, .int (nI v), .int (nI c), .int (nI a), .int (nI b), .int (nI j)] [] M (mm_Eq (some (.int (nI (g_claws n T)))) M)) (I := fun j v => v = gs (g_clwB n T) c + gs (g_clwC n T c) a + gs (g_clwD n T c a) b + gs (fun e => g1 (g_clw1 T c a b e)) j) (by omega) ?_ ?_
  · rw [gs_z (f := fun e => g1 (g_clw1 T c a b e))]
    · rfl
    · intro i hi
      exact g1_f fun h => by have := h.2.1; omega
  intro e v hbe he hI ih4
  subst hI
  refine bX10_claws_48 o f10 (by decide) gk_in0 (fun c4 => ?_) (fun _ => gk_in1 (by omega)) (fun _ _ => gk_in1 (by omega)) (fun _ _ _ => gk_in1 (by omega)) (fun _ _ _ _ => gk_in1 (by omega)) (fun _ _ _ _ _ => gk_in1 (by omega)) (fun _ _ _ _ _ _ => gk_in1 (by omega)) (fun c4 c5 => ?_) (fun c4 c5 => ?_)
  · obtain rfl := eq e he c4
    rw [nI_1]
    exact ih3 _ lb (Nat.add_assoc _ _ _)
  · have le := lt e he c4
    rw [q_isClaw hw lc la lb le, ks_b0] at c5
    rw [nI_1]
    refine ih4 _ le ?_
    show _ = _ + (_ + g1 (g_clw1 T c a b e))
    rw [g1_f fun h => c5 h.2.2, Nat.add_zero]
  · have le := lt e he c4
    rw [q_isClaw hw lc la lb le, ks_b0, Classical.not_not] at c5
    rw [nI_1, nI_1]
    refine ih4 _ le ?_
    show _ = _ + (_ + g1 (g_clw1 T c a b e))
    rw [g1_t ⟨by omega, by omega, c5⟩, Nat.add_assoc]
