/-! WHETHER A POINT MAY COME, AND WHAT WOULD MEND A NET -/
def g_may (n : Nat) (T : Nat → Nat) (S : Nat) : Prop := g_cov (n + 1) (g_add n T S) (2 ^ (n + 1) - 1)
theorem CS.tr {M M' : mm_Mem} {σ : g_st} (h : CS M σ) (o : nj M' 3) (e : ∀ j, j ≠ 3 → j ≠ 4 → M' j = M j) : CS M' σ := by
  obtain ⟨n, T, L, K, t, f, fk⟩ := σ
  obtain ⟨-, -, -, -, -, -, h8, h9, h10, -⟩ := id h
  exact h.scr o (h8.eq fun j _ _ => e j (by omega) (by omega)) (h9.eq fun j _ _ => e j (by omega) (by omega)) (h10.eq fun j _ _ => e j (by omega) (by omega)) fun j _ _ j3 j4 => e j j3 j4
theorem CS.here {M : mm_Mem} {n : Nat} {T : Nat → Nat} {L : g_nets} {K : g_kept} {t : Nat} {f : Nat → Int32} {fk : Int32} (h : CS M (n, T, L, K, t, f, fk)) : na M 1 n T ∧ gw n T := ⟨h.2.1, h.2.2.1⟩
theorem CS.trial {M : mm_Mem} {σ : g_st} (h : CS M σ) : nj M 3 := by
  obtain ⟨n, T, L, K, t, f, fk⟩ := σ
  exact h.2.2.2.1
theorem s_coversWith {M : mm_Mem} {n S : Nat} {T : Nat → Nat} {L : g_nets} {K : g_kept} {t : Nat} {f : Nat → Int32} {fk : Int32} (h : CS M (n, T, L, K, t, f, fk)) (hn : n < 14) (hS : S < 2 ^ n) : mm_S 4 mX9_coversWith 0 0 [.ref 0, .int (nI S)] M (fun r M' => r = some (.int (ks_b (g_may n T S))) ∧ CS M' (n, T, L, K, t, f, fk) ∧ fC M M') := by
  obtain ⟨o, hw⟩ := h.here
  obtain ⟨n3, T3, o3, hw3⟩ := h.trial
  refine mm_S.of rfl rfl (Nat.le_of_ble_eq_true rfl) (fun r M' h x e => by rw [h.1] at e; cases e) (bX9_coversWith_0 o3.1 (h.fd 1 3 (by decide)) (h.fd 0 1 (by decide)) (mm_Call.eq (s_copyN o3 o hw3 hw (by decide) (by decide) (by decide)) (by decide) ?_))
  have q3 : na (mm_net M 3 n T) 3 n T := mm_net_na (by decide)
  have f0 : ∀ {a b : Nat} {U : Nat → Nat} {c : Nat}, mm_fd M 0 9 1 (.ref 3) → mm_fd (mm_net M 3 a U) 0 9 1 (.ref 3) := fun h => h.eq (mm_net_n (by decide) (by decide))
  have g := h.fd 1 3 (by decide)
  refine bX9_coversWith_11 q3.1 (g.eq (mm_net_n (by decide) (by decide))) (mm_Call.eq (s_add q3 hw hn hS) (by decide) ?_)
  rw [mm_net_net]
  have r3 : na (mm_net M 3 (n + 1) (g_add n T S)) 3 (n + 1) (g_add n T S) := mm_net_na (by decide)
  refine bX9_coversWith_19 r3.1 (g.eq (mm_net_n (by decide) (by decide))) (by decide) ?_
  rw [ks_all _ (by omega)]
  refine mm_Call.eq (s_hasCover r3 (gw_add hw hn hS) (ks_am _)) (by decide) (bX9_coversWith_33 (ks_bz _) ⟨rfl, h.tr ⟨_, _, r3, gw_add hw hn hS⟩ fun j j3 j4 => mm_net_n j3 j4, fun j hj => mm_net_n (by omega) (by omega)⟩)
noncomputable def o_may : g_st → Int32 → Int32 × g_st
  | (n, T, L, K, t, f, fk), x => (pif (n < 14 ∧ g_set n x) (ks_b (g_may n T x.toNatClampNeg)) (-1), (n, T, L, K, t, f, fk))
theorem oC_may {M : mm_Mem} {σ : g_st} {x : Int32} (h : CS M σ) : OC 5 mX9_may [.int x] M (o_may σ x) := by
  obtain ⟨n, T, L, K, t, f, fk⟩ := σ
  obtain ⟨o, hw⟩ := h.here
  have hn := hw.1
  refine mm_S.of rfl rfl (Nat.le_of_ble_eq_true rfl) ndC (bX9_may_0 o.1 (h.fd 0 1 (by decide)) (by decide) (fun c => ?_) (fun c => ?_))
  · rw [q_mayAdd hn, ks_b0, Classical.not_not] at c
    obtain ⟨q1, S, q2, rfl⟩ := c
    have := ks_p14 hn q2
    dsimp only [o_may]
    rw [pif_t ⟨q1, S, q2, rfl⟩, nI_clamp (by omega)]
    refine mm_Call.of (s_coversWith h q1 q2) (by decide) ?_
    rintro _ M' ⟨rfl, k1, k2⟩
    refine bX9_may_18 (fun c => ⟨by rw [c], k1, k2⟩) (fun c => ?_)
    rw [ks_b0, Classical.not_not] at c
    exact ⟨by rw [ks_bt c], k1, k2⟩
  · rw [q_mayAdd hn, ks_b0] at c
    dsimp only [o_may]
    rw [pif_f c]
    exact ⟨rfl, h, fun _ _ => rfl⟩
noncomputable def o_mays : g_st → Int32 × g_st
  | (n, T, L, K, t, f, fk) => (if n ≤ 8 then nI (gs (fun S => g1 (g_may n T S)) (2 ^ n)) else -1, (n, T, L, K, t, f, fk))
theorem oC_mays {M : mm_Mem} {σ : g_st} (h : CS M σ) : OC 5 mX9_mays [] M (o_mays σ) := by
  obtain ⟨n, T, L, K, t, f, fk⟩ := σ
  obtain ⟨o, hw⟩ := h.here
  have hn := hw.1
  refine mm_S.of rfl rfl (Nat.le_of_ble_eq_true rfl) ndC (bX9_mays_0 o.1 (h.fd 0 1 (by decide)) (by decide) (fun c => ?_) (fun c => ?_))
  · rw [show (8 : Int32) = nI 8 from rfl, ks_le (by omega) (by decide)] at c
    dsimp only [o_mays]
    have hm : 2 ^ n ≤ 16384 := Nat.pow_le_pow_right (n := 2) (by decide) hn
    have p0 := Nat.pow_pos (a := 2) (n := n) (by decide)
    rw [if_pos c, show (0 : Int32) = nI 0 from rfl]
    refine fld (s := 0) (n := 2 ^ n) (G := fun S (q : Nat × mm_Mem) => mm_X mX9_mays 5 none (0, 0) 18 [.ref 0, .int (nI q.1), .int (nI S)] [] q.2 _) (v0 := (0, M)) (I := fun S q => q.1 = gs (fun S => g1 (g_may n T S)) S ∧ CS q.2 (n, T, L, K, t, f, fk) ∧ fC M q.2) (Nat.zero_le _) ⟨rfl, h, fun _ _ => rfl⟩ ?_
    rintro S ⟨v, M1⟩ _ hS ⟨b1, b2, b3⟩ ih
    dsimp only at b1 b2 b3
    subst b1
    refine bX9_mays_18 b2.here.1.1 (b2.fd 0 1 (by decide)) (by decide) (fun c1 => ?_) (fun c1 => ?_)
    · rw [ks_all n (by omega), ks_ltI (by omega) (by omega)] at c1
      obtain rfl : S = 2 ^ n := by omega
      exact ⟨rfl, b2, b3⟩
    · rw [ks_all n (by omega), ks_ltI (by omega) (by omega)] at c1
      refine mm_Call.of (s_coversWith b2 (by omega) (show S < 2 ^ n by omega)) (by decide) ?_
      rintro _ M2 ⟨rfl, k1, k2⟩
      refine bX9_mays_34 (fun c2 => ?_) (fun c2 => ?_)
      · rw [ks_b0] at c2
        rw [nI_1]
        refine ih (_, M2) (by omega) ⟨?_, k1, fun j hj => (k2 j hj).trans (b3 j hj)⟩
        show gs _ S = gs _ S + g1 (g_may n T S)
        rw [g1_f c2, Nat.add_zero]
      · rw [ks_b0, Classical.not_not] at c2
        rw [nI_1, nI_1]
        refine ih (_, M2) (by omega) ⟨?_, k1, fun j hj => (k2 j hj).trans (b3 j hj)⟩
        show gs _ S + 1 = gs _ S + g1 (g_may n T S)
        rw [g1_t c2]
  · rw [show (8 : Int32) = nI 8 from rfl, ks_le (by omega) (by decide)] at c
    dsimp only [o_mays]
    rw [if_neg c]
    exact ⟨rfl, h, fun _ _ => rfl⟩
theorem s_isMay {M : mm_Mem} {n S : Nat} {T : Nat → Nat} {L : g_nets} {K : g_kept} {t : Nat} {f : Nat → Int32} {fk th : Int32} (h : MT M th (n, T, L, K, t, f, fk)) (hn : n < 14) (hS : S < 2 ^ n) : mm_S 4 mX10_isMay 0 0 [.ref 31, .int (nI S)] M (fun r M' => r = some (.int (ks_b (g_may n T S))) ∧ MT M' th (n, T, L, K, t, f, fk) ∧ fM M M') := by
  obtain ⟨o, hw⟩ := h.now
  obtain ⟨n4, T4, a1, a2⟩ := h.rn 41 (by decide)
  refine mm_S.of rfl rfl (Nat.le_of_ble_eq_true rfl) (fun r M' h x e => by rw [h.1] at e; cases e) (bX10_isMay_0 (h.fdr 10 33 (by decide)) (h.fdr 18 41 (by decide)) ?_)
  rw [show (0 : Int32) = nI 0 from rfl]
  refine mm_Call.eq (s_copyM (s := 0) (t := 0) o a1 (by decide) gk_at0 (by decide) (by decide) (by decide) (by decide)) (by decide) ?_
  rw [sl_row a2 hw]
  have q1 : ra (mm_up M 41 (mm_aI 15 (gk_f n T))) 41 n T := mm_at.s a1.1
  refine bX10_isMay_13 ((h.fdr 18 41 (by decide)).o (by decide)) (mm_Call.eq (s_comes q1 hw hn hS) (by decide) ?_)
  rw [mm_up_up]
  have q2 : ra (mm_up M 41 (mm_aI 15 (gk_f (n + 1) (g_add n T S)))) 41 (n + 1) (g_add n T S) := mm_at.s a1.1
  refine bX10_isMay_21 q2 ((h.fdr 18 41 (by decide)).o (by decide)) (by decide) gk_in0 ?_
  rw [gk_0, ks_all _ (by omega)]
  exact mm_Call.eq (s_isCovered q2 (gw_add hw hn hS) (ks_am _)) (by decide) (bX10_isMay_35 (ks_bz _) ⟨rfl, h.rnet (by decide) (gw_add hw hn hS), fun j hj => mm_up_n (by omega)⟩)
theorem oM_may {M : mm_Mem} {σ : g_st} {x : Int32} (h : MS M σ) : OM 5 mX10_may [.int x] M (o_may σ x) := by
  obtain ⟨n, T, L, K, t, f, fk⟩ := σ
  obtain ⟨th, h⟩ := h
  obtain ⟨F, w, m1, m2⟩ := h.mo
  obtain ⟨o, hw⟩ := h.now
  have hn := hw.1
  refine mm_S.of rfl rfl (Nat.le_of_ble_eq_true rfl) ndM (bX10_may_0 o (m1.i 0 (by decide)) (m1.r 10 33 (by decide)) (by decide) (by decide) gk_in0 (fun _ _ => gk_in0) (fun c => ?_) (fun c => ?_))
  · rw [q_mayCome hn, ks_b0, Classical.not_not] at c
    obtain ⟨q1, S, q2, rfl⟩ := c
    have := ks_p14 hn q2
    dsimp only [o_may]
    rw [pif_t ⟨q1, S, q2, rfl⟩, nI_clamp (by omega)]
    refine mm_Call.of (s_isMay h.z q1 q2) (by decide) ?_
    rintro _ M' ⟨rfl, k1, k2⟩
    have k3 : fM M M' := fun j hj => (k2 j hj).trans (mm_upF_n (by omega))
    refine bX10_may_25 (fun c => ⟨by rw [c], ⟨_, k1⟩, k3⟩) (fun c => ?_)
    rw [ks_b0, Classical.not_not] at c
    exact ⟨by rw [ks_bt c], ⟨_, k1⟩, k3⟩
  · rw [q_mayCome hn, ks_b0] at c
    dsimp only [o_may]
    rw [pif_f c]
    exact ⟨rfl, ⟨_, h.z⟩, fM_z⟩
theorem oM_mays {M : mm_Mem} {σ : g_st} (h : MS M σ) : OM 5 mX10_mays [] M (o_mays σ) := by
  obtain ⟨n, T, L, K, t, f, fk⟩ := σ
  obtain ⟨th, h⟩ := h
  obtain ⟨F, w, m1, m2⟩ := h.mo
  obtain ⟨o, hw⟩ := h.now
  have hn := hw.1
  refine mm_S.of rfl rfl (Nat.le_of_ble_eq_true rfl) ndM (bX10_mays_0 o (m1.i 0 (by decide)) (m1.r 10 33 (by decide)) (by decide) gk_in0 (fun c => ?_) (fun c => ?_))
  · rw [gk_0, show (8 : Int32) = nI 8 from rfl, ks_le (by omega) (by decide)] at c
    dsimp only [o_mays]
    have hm : 2 ^ n ≤ 16384 := Nat.pow_le_pow_right (n := 2) (by decide) hn
    have p0 := Nat.pow_pos (a := 2) (n := n) (by decide)
    rw [if_pos c]
    have hz := h.z
    have ez : fM M (mm_upF M 31 0 (.int 0)) := fM_z
    generalize mm_upF M 31 0 (.int 0) = M0 at hz ez ⊢
    rw [show (0 : Int32) = nI 0 from rfl]
    refine fld (s := 0) (n := 2 ^ n) (G := fun S (q : Nat × mm_Mem) => mm_X mX10_mays 5 none (0, 0) 22 [.ref 31, .int (nI q.1), .int (nI S)] [] q.2 _) (v0 := (0, M0)) (I := fun S q => q.1 = gs (fun S => g1 (g_may n T S)) S ∧ MT q.2 0 (n, T, L, K, t, f, fk) ∧ fM M q.2) (Nat.zero_le _) ⟨rfl, hz, ez⟩ ?_
    rintro S ⟨v, M1⟩ _ hS ⟨b1, b2, b3⟩ ih
    dsimp only at b1 b2 b3
    subst b1
    refine bX10_mays_22 b2.now.1 (b2.fdr 10 33 (by decide)) (by decide) gk_in0 (fun c1 => ?_) (fun c1 => ?_)
    · rw [gk_0, ks_all n (by omega), ks_ltI (by omega) (by omega)] at c1
      obtain rfl : S = 2 ^ n := by omega
      exact ⟨rfl, ⟨_, b2⟩, b3⟩
    · rw [gk_0, ks_all n (by omega), ks_ltI (by omega) (by omega)] at c1
      refine mm_Call.of (s_isMay b2 (by omega) (show S < 2 ^ n by omega)) (by decide) ?_
      rintro _ M2 ⟨rfl, k1, k2⟩
      refine bX10_mays_38 (fun c2 => ?_) (fun c2 => ?_)
      · rw [ks_b0] at c2
        rw [nI_1]
        refine ih (_, M2) (by omega) ⟨?_, k1, fun j hj => (k2 j hj).trans (b3 j hj)⟩
        show gs _ S = gs _ S + g1 (g_may n T S)
        rw [g1_f c2, Nat.add_zero]
      · rw [ks_b0, Classical.not_not] at c2
        rw [nI_1, nI_1]
        refine ih (_, M2) (by omega) ⟨?_, k1, fun j hj => (k2 j hj).trans (b3 j hj)⟩
        show gs _ S + 1 = gs _ S + g1 (g_may n T S)
        rw [g1_t c2]
  · rw [gk_0, show (8 : Int32) = nI 8 from rfl, ks_le (by omega) (by decide)] at c
    dsimp only [o_mays]
    rw [if_neg c]
    exact ⟨rfl, ⟨_, h.z⟩, fM_z⟩
/-! mendings: the pairs in their order, as if they were lines -/
noncomputable def g_mdT (n : Nat) (T : Nat → Nat) : Nat → Nat := fun a => ks_set (fun b => g_cov n (g_flip T a b) (2 ^ n - 1)) n
theorem g_mdT_bit {n a b : Nat} {T : Nat → Nat} (hb : b < n) : (g_mdT n T a).testBit b = true ↔ g_cov n (g_flip T a b) (2 ^ n - 1) := by
  unfold g_mdT
  rw [ks_set_bit]
  exact ⟨fun h => h.2, fun h => ⟨hb, h⟩⟩
noncomputable def g_mdL (n : Nat) (T : Nat → Nat) : g_prs := pif (g_cov n T (2 ^ n - 1)) [] (gl n (g_mdT n T))
def g_mdA (L : g_prs) (x : Int32) : Int32 := if x = 0 then nI L.length else match L[0]? with
  | none => -1
  | some q => if x = 1 then nI q.1 else nI q.2
noncomputable def o_mending : g_st → Int32 → Int32 × g_st
  | (n, T, L, K, t, f, fk), x => (if x = 0 ∨ x = 1 ∨ x = 2 then g_mdA (g_mdL n T) x else -1, (n, T, L, K, t, f, fk))
theorem ks_012 (y : Int32) : (y = 0 ∨ y = 1 ∨ y = 2) ↔ (¬ y < 0 ∧ y ≤ 2) := by
  constructor
  · rintro (rfl | rfl | rfl) <;> decide
  · rintro ⟨h1, h2⟩
    obtain ⟨j, h3, rfl⟩ := nI_of2 (M := nI 2) (n := 2) (nI_toInt (by decide)) h1 h2
    have : j = 0 ∨ j = 1 ∨ j = 2 := by omega
    rcases this with rfl | rfl | rfl
    · exact Or.inl rfl
    · exact Or.inr (Or.inl rfl)
    · exact Or.inr (Or.inr rfl)
theorem g_flip2 {T : Nat → Nat} {a b : Nat} (hab : a ≠ b) : g_flip (g_flip T a b) a b = T := by
  funext p
  unfold g_flip
  by_cases h1 : p = b
  · subst h1
    simp [Nat.xor_assoc]
  · by_cases h2 : p = a
    · subst h2
      simp [h1, hab, Nat.xor_assoc]
    · simp [h1, h2]
theorem s_mendsBy {M : mm_Mem} {n a b : Nat} {T : Nat → Nat} (f3 : mm_fd M 0 9 1 (.ref 3)) (o : na M 3 n T) (hw : gw n T) (ha : a < n) (hb : b < n) (hab : a ≠ b) : mm_S 4 mX9_mendsByFlipping 0 0 [.ref 0, .int (nI a), .int (nI b)] M (mm_Eq (some (.int (ks_b (g_cov n (g_flip T a b) (2 ^ n - 1))))) M) := by
  have hn := hw.1
  refine mm_S.of rfl rfl (Nat.le_of_ble_eq_true rfl) mm_ndi (bX9_mendsByFlipping_0 o.1 o.2 f3 (by decide) (by decide) (by decide) ?_)
  rw [g_flip_f (by omega) (by omega) hab, ks_all n (by omega)]
  have o1 : na (mm_up M 4 (mm_aI 14 (gt_f (g_flip T a b)))) 3 n (g_flip T a b) := ⟨o.1.n (by decide), mm_at.s o.2.1⟩
  refine mm_Call.eq (s_hasCover o1 (gw_flip hw ha hb hab) (ks_am n)) (by decide) (bX9_mendsByFlipping_23 o1.1 o1.2 (f3.o (by decide)) (by decide) (by decide) (ks_bz _) ⟨rfl, ?_⟩)
  rw [g_flip_f (by omega) (by omega) hab, g_flip2 hab, mm_up_up, mm_up_id o.2.2]
theorem g_hd {L : g_prs} {q : Nat × Nat} (h : L.length ≠ 0) : (L ++ [q])[0]? = L[0]? := List.getElem?_append_left (by omega)
theorem oC_mending {M : mm_Mem} {σ : g_st} {x : Int32} (h : CS M σ) : OC 5 mX9_mending [.int x] M (o_mending σ x) := by
  obtain ⟨n, T, L, K, t, f, fk⟩ := σ
  obtain ⟨o, hw⟩ := h.here
  obtain ⟨n3, T3, o3, hw3⟩ := h.trial
  have hn := hw.1
  have hl := gl_len (T := g_mdT n T) hn
  have no : ¬ (x = 0 ∨ x = 1 ∨ x = 2) → some (Value.int (-1)) = some (.int (o_mending (n, T, L, K, t, f, fk) x).1) ∧ CS M (o_mending (n, T, L, K, t, f, fk) x).2 ∧ fC M M := by
    intro q
    dsimp only [o_mending]
    rw [if_neg q]
    exact ⟨rfl, h, fun _ _ => rfl⟩
  refine mm_S.of rfl rfl (Nat.le_of_ble_eq_true rfl) ndC (bX9_mending_0 o.1 (h.fd 0 1 (by decide)) (by decide) (fun c => no fun q => ((ks_012 x).mp q).1 c) (fun c c1 => ?_) (fun _ c1 => no fun q => c1 ((ks_012 x).mp q).2))
  have hx := (ks_012 x).mpr ⟨c, c1⟩
  rw [ks_all n (by omega)]
  refine mm_Call.eq (s_hasCover o hw (ks_am n)) (by decide) (bX9_mending_29 o3.1 (h.fd 1 3 (by decide)) (h.fd 0 1 (by decide)) (by decide) (fun _ _ c => absurd rfl c) (fun _ _ c => absurd rfl c) (fun c c2 _ => ?_) (fun c c2 => ?_) (fun c => ?_))
  · rw [ks_b0, Classical.not_not] at c
    refine ⟨?_, h, fun _ _ => rfl⟩
    dsimp only [o_mending]
    unfold g_mdL g_mdA
    rw [if_pos hx, pif_t c, if_neg c2]
    rfl
  · rw [ks_b0, Classical.not_not] at c
    refine ⟨?_, h, fun _ _ => rfl⟩
    dsimp only [o_mending]
    unfold g_mdL g_mdA
    rw [if_pos hx, pif_t c, if_pos c2]
    rfl
  rw [ks_b0] at c
  refine mm_Call.eq (s_copyN o3 o hw3 hw (by decide) (by decide) (by decide)) (by decide) (bX9_mending_43 ?_)
  have q3 : na (mm_net M 3 n T) 3 n T := mm_net_na (by decide)
  have h1 : CS (mm_net M 3 n T) (n, T, L, K, t, f, fk) := h.tr ⟨n, T, q3, hw⟩ fun j j3 j4 => mm_net_n j3 j4
  have e1 : fC M (mm_net M 3 n T) := fun j hj => mm_net_n (by omega) (by omega)
  generalize mm_net M 3 n T = M1 at q3 h1 e1 ⊢
  obtain ⟨o1, -⟩ := h1.here
  rw [show (0 : Int32) = nI 0 from rfl]
  refine fld (s := 0) (n := n) (G := fun a (q : Nat × Nat) => mm_X mX9_mending 5 none (0, 0) 46 [.ref 0, .int x, .int (nI q.1), .int (nI q.2), .int (nI a), .null] [] M1 _) (v0 := (0, 0)) (I := fun a q => q.1 = (gl_pre n (g_mdT n T) a).length ∧ ∀ r, (gl_pre n (g_mdT n T) a)[0]? = some r → r.1 < r.2 ∧ r.2 < n ∧ q.2 = 2 ^ r.1 ||| 2 ^ r.2) (Nat.zero_le n) ⟨rfl, fun r h => by cases h⟩ ?_
  rintro a ⟨v, E⟩ _ ha ⟨b1, b2⟩ ih
  dsimp only at b1 b2
  subst b1
  refine bX9_mending_46 o1.1 (h1.fd 0 1 (by decide)) (by decide) (fun c2 c3 c4 c5 => ?_) (fun c2 c3 c4 c5 => ?_) (fun c2 c3 c4 => ?_) (fun c2 c3 => ?_) (fun c2 => ?_)
  · rw [ks_le (by omega) (by omega)] at c2
    obtain rfl : a = n := by omega
    have hl' : (gl_pre a (g_mdT a T) a).length ≤ 91 := hl
    rw [ks_eq0 (by omega)] at c4
    obtain ⟨r, hr⟩ : ∃ r, (gl_pre a (g_mdT a T) a)[0]? = some r := ⟨_, List.getElem?_eq_getElem (by omega)⟩
    obtain ⟨r1, r2, r3⟩ := b2 r hr
    refine ⟨?_, h1, e1⟩
    dsimp only [o_mending]
    unfold g_mdL g_mdA
    rw [if_pos hx, pif_f c, if_neg c3, show (gl a (g_mdT a T))[0]? = some r from hr]
    dsimp only
    rw [if_neg c5, r3, (ks_low2 r.1 (by omega) r.2 (by omega) r1).2]
  · rw [ks_le (by omega) (by omega)] at c2
    obtain rfl : a = n := by omega
    have hl' : (gl_pre a (g_mdT a T) a).length ≤ 91 := hl
    rw [ks_eq0 (by omega)] at c4
    obtain ⟨r, hr⟩ : ∃ r, (gl_pre a (g_mdT a T) a)[0]? = some r := ⟨_, List.getElem?_eq_getElem (by omega)⟩
    obtain ⟨r1, r2, r3⟩ := b2 r hr
    refine ⟨?_, h1, e1⟩
    dsimp only [o_mending]
    unfold g_mdL g_mdA
    rw [if_pos hx, pif_f c, if_neg c3, show (gl a (g_mdT a T))[0]? = some r from hr]
    dsimp only
    rw [if_pos c5, r3, (ks_low2 r.1 (by omega) r.2 (by omega) r1).1]
  · rw [ks_le (by omega) (by omega)] at c2
    obtain rfl : a = n := by omega
    have hl' : (gl_pre a (g_mdT a T) a).length ≤ 91 := hl
    rw [ks_eq0 (by omega)] at c4
    refine ⟨?_, h1, e1⟩
    dsimp only [o_mending]
    unfold g_mdL g_mdA
    rw [if_pos hx, pif_f c, if_neg c3, show (gl a (g_mdT a T))[0]? = none from List.getElem?_eq_none (Nat.le_of_eq c4)]
  · rw [ks_le (by omega) (by omega)] at c2
    obtain rfl : a = n := by omega
    refine ⟨?_, h1, e1⟩
    dsimp only [o_mending]
    unfold g_mdL g_mdA
    rw [if_pos hx, pif_f c, if_pos c3]
    rfl
  rw [ks_le (by omega) (by omega)] at c2
  rw [nI_1]
  refine fld (s := a + 1) (n := n) (G := fun b (q : Nat × Nat) => mm_X mX9_mending 5 none (0, 0) 64 [.ref 0, .int x, .int (nI q.1), .int (nI q.2), .int (nI a), .int (nI b)] [] M1 _) (v0 := ((gl_pre n (g_mdT n T) a).length, E)) (I := fun b q => q.1 = (glp n (g_mdT n T) a b).length ∧ ∀ r, (glp n (g_mdT n T) a b)[0]? = some r → r.1 < r.2 ∧ r.2 < n ∧ q.2 = 2 ^ r.1 ||| 2 ^ r.2) (by omega) ⟨by rw [glp_e0], by rw [glp_e0]; exact b2⟩ ?_
  rintro b ⟨v, E⟩ hab hb ⟨b1, b2⟩ ih2
  dsimp only at b1 b2
  subst b1
  have hl2 := glp_le (T := g_mdT n T) hn (show a < n by omega) hb
  refine bX9_mending_64 o1.1 (h1.fd 0 1 (by decide)) (by decide) (fun c3 => ?_) (fun c3 => ?_)
  · rw [ks_le (by omega) (by omega)] at c3
    obtain rfl : b = n := by omega
    rw [nI_1]
    exact ih (_, E) (by omega) ⟨rfl, b2⟩
  rw [ks_le (by omega) (by omega)] at c3
  refine mm_Call.eq (s_mendsBy (h1.fd 1 3 (by decide)) q3 hw (by omega) (by omega) (by omega)) (by decide) (bX9_mending_84 (fun c4 => ?_) (fun c4 c5 => ?_) (fun c4 c5 => ?_))
  · rw [ks_b0, ← g_mdT_bit (by omega)] at c4
    rw [nI_1]
    exact ih2 (_, E) (by omega) ⟨by rw [glp_n c4], by rw [glp_n c4]; exact b2⟩
  · rw [ks_b0, Classical.not_not, ← g_mdT_bit (by omega)] at c4
    rw [ks_eq0 (by omega)] at c5
    rw [nI_1, nI_1]
    refine ih2 (_, E) (by omega) ⟨by rw [glp_s (by omega) c4, List.length_append]; rfl, ?_⟩
    rw [glp_s (by omega) c4, g_hd c5]
    exact b2
  · rw [ks_b0, Classical.not_not, ← g_mdT_bit (by omega)] at c4
    rw [ks_eq0 (by omega)] at c5
    rw [nI_1, nI_1, ks_shl1 _ (by omega), ks_shl1 _ (by omega), nx_or]
    refine ih2 (_, _) (by omega) ⟨by rw [glp_s (by omega) c4, List.length_append]; rfl, ?_⟩
    rw [glp_s (by omega) c4, List.length_eq_zero_iff.mp c5]
    intro r hr
    cases hr
    exact ⟨by show a < b; omega, by show b < n; omega, rfl⟩
theorem q_isIn2 (y : Int32) : qX10_isIn y 0 2 = ks_b (y = 0 ∨ y = 1 ∨ y = 2) := by
  rw [ks_bc (ks_012 y)]
  unfold qX10_isIn
  by_cases h1 : y < 0
  · rw [if_pos h1, ks_bf fun q => q.1 h1]
  · rw [if_neg h1]
    by_cases h2 : (2 : Int32) < y
    · rw [if_pos h2, ks_bf fun q => Int32.not_le.mpr h2 q.2]
    · rw [if_neg h2, ks_bt ⟨h1, Int32.not_lt.mp h2⟩]
def g_md1 (L : g_prs) : Int32 := match L[0]? with
  | none => -1
  | some q => nI q.1
def g_md2 (L : g_prs) : Int32 := match L[0]? with
  | none => -1
  | some q => nI q.2
theorem g_mdA_1 {L : g_prs} : g_mdA L 1 = g_md1 L := by
  unfold g_mdA g_md1
  rw [if_neg (by decide)]
  cases L[0]? with
  | none => rfl
  | some q => exact if_pos rfl
theorem g_mdA_2 {L : g_prs} : g_mdA L 2 = g_md2 L := by
  unfold g_mdA g_md2
  rw [if_neg (by decide)]
  cases L[0]? with
  | none => rfl
  | some q => exact if_neg (by decide)
theorem oM_mending {M : mm_Mem} {σ : g_st} {x : Int32} (h : MS M σ) : OM 4 mX10_mending [.int x] M (o_mending σ x) := by
  obtain ⟨n, T, L, K, t, f, fk⟩ := σ
  obtain ⟨th, h⟩ := h
  obtain ⟨F, w, m1, m2⟩ := h.mo
  obtain ⟨o, hw⟩ := h.now
  have hn := hw.1
  have hl := gl_len (T := g_mdT n T) hn
  have hz := h.z
  refine mm_S.of rfl rfl (Nat.le_of_ble_eq_true rfl) ndM (bX10_mending_0 (m1.i 0 (by decide)) (m1.r 10 33 (by decide)) (m1.r 18 41 (by decide)) (by decide) (fun c => ?_) (fun c => ?_))
  rotate_left
  · rw [q_isIn2, ks_b0] at c
    dsimp only [o_mending]
    rw [if_neg c]
    exact ⟨rfl, ⟨_, hz⟩, fM_z⟩
  rw [q_isIn2, ks_b0, Classical.not_not] at c
  obtain ⟨oz, -⟩ := hz.now
  obtain ⟨n4, T4, a1, a2⟩ := hz.rn 41 (by decide)
  refine mm_Call.eq (s_copyM (s := 0) (t := 0) oz a1 (by decide) gk_at0 (by decide) (by decide) (by decide) (by decide)) (by decide) ?_
  rw [sl_row a2 hw]
  have h1 := hz.rnet (a := 41) (by decide) hw
  have q4 : ra (mm_up (mm_upF M 31 0 (.int 0)) 41 (mm_aI 15 (gk_f n T))) 41 n T := mm_at.s a1.1
  have e1 : fM M (mm_up (mm_upF M 31 0 (.int 0)) 41 (mm_aI 15 (gk_f n T))) := fun j hj => (mm_up_n (by omega)).trans (mm_upF_n (by omega))
  generalize mm_up (mm_upF M 31 0 (.int 0)) 41 (mm_aI 15 (gk_f n T)) = M1 at h1 q4 e1 ⊢
  obtain ⟨o1, -⟩ := h1.now
  have fin : ∀ Lx, g_mdL n T = Lx → mm_X mX10_mending 4 none (0, 0) 149 [.null, .int x, .int (nI Lx.length), .int (g_md1 Lx), .int (g_md2 Lx), .null, .null] [] M1 (fun r M' => r = some (.int (o_mending (n, T, L, K, t, f, fk) x).1) ∧ MS M' (o_mending (n, T, L, K, t, f, fk) x).2 ∧ fM M M') := by
    intro Lx hLx
    have go : ∀ {v : Int32}, v = g_mdA Lx x → some (Value.int v) = some (.int (o_mending (n, T, L, K, t, f, fk) x).1) ∧ MS M1 (o_mending (n, T, L, K, t, f, fk) x).2 ∧ fM M M1 := by
      intro v hv
      dsimp only [o_mending]
      rw [if_pos c, hLx, hv]
      exact ⟨rfl, ⟨_, h1⟩, e1⟩
    refine bX10_mending_149 (fun c1 c2 => bX10_mending_168 (go ?_)) (fun c1 c2 => bX10_mending_168 (go ?_)) (fun c1 => bX10_mending_168 (go ?_))
    · obtain rfl : x = 2 := by
        rcases c with q | q | q
        · exact absurd q c1
        · exact absurd q c2
        · exact q
      exact g_mdA_2.symm
    · subst c2
      exact g_mdA_1.symm
    · unfold g_mdA
      rw [if_pos c1]
  refine bX10_mending_36 ?_
  by_cases hc : g_cov n T (2 ^ n - 1)
  · have eL : g_mdL n T = [] := by unfold g_mdL; rw [pif_t hc]
    refine bX10_mending_39 o1 (h1.fdr 10 33 (by decide)) (by decide) gk_in0 (fun c1 => fin [] eL) (fun _ => gk_in0) (fun c1 => ?_)
    rw [gk_0, ks_all n (by omega)]
    refine mm_Call.eq (s_isCovered o1 hw (ks_am n)) (by decide) (bX10_mending_64 (fun _ => fin [] eL) (fun c2 => ?_))
    rw [ks_b0] at c2
    exact absurd hc c2
  have eL : g_mdL n T = gl n (g_mdT n T) := by unfold g_mdL; rw [pif_f hc]
  rw [show mm_X mX10_mending 4 none (0, 0) 39 [.ref 31, .int x, .int 0, .int (-1), .int (-1), .int 0, .null] = mm_X mX10_mending 4 none (0, 0) 39 [.ref 31, .int x, .int (nI (gl_pre n (g_mdT n T) 0).length), .int (g_md1 (gl_pre n (g_mdT n T) 0)), .int (g_md2 (gl_pre n (g_mdT n T) 0)), .int (nI 0), .null] from rfl]
  refine fld (s := 0) (n := n) (G := fun a (_ : Unit) => mm_X mX10_mending 4 none (0, 0) 39 [.ref 31, .int x, .int (nI (gl_pre n (g_mdT n T) a).length), .int (g_md1 (gl_pre n (g_mdT n T) a)), .int (g_md2 (gl_pre n (g_mdT n T) a)), .int (nI a), .null] [] M1 _) (v0 := ()) (I := fun _ _ => True) (Nat.zero_le n) trivial ?_
  intro a _ _ ha _ ih
  refine bX10_mending_39 o1 (h1.fdr 10 33 (by decide)) (by decide) gk_in0 (fun c1 => ?_) (fun _ => gk_in0) (fun c1 => ?_)
  · rw [gk_0, ks_le (by omega) (by omega)] at c1
    obtain rfl : a = n := by omega
    exact fin _ eL
  rw [gk_0, ks_le (by omega) (by omega)] at c1
  rw [gk_0, ks_all n (by omega)]
  refine mm_Call.eq (s_isCovered o1 hw (ks_am n)) (by decide) (bX10_mending_64 (fun c2 => ?_) (fun c2 => ?_))
  · rw [ks_b0, Classical.not_not] at c2
    exact absurd c2 hc
  rw [nI_1, ← glp_e0]
  refine fld (s := a + 1) (n := n) (G := fun b (_ : Unit) => mm_X mX10_mending 4 none (0, 0) 73 [.ref 31, .int x, .int (nI (glp n (g_mdT n T) a b).length), .int (g_md1 (glp n (g_mdT n T) a b)), .int (g_md2 (glp n (g_mdT n T) a b)), .int (nI a), .int (nI b)] [] M1 _) (v0 := ()) (I := fun _ _ => True) (by omega) trivial ?_
  intro b _ hab hb _ ih2
  have hl2 := glp_le (T := g_mdT n T) hn (show a < n by omega) hb
  have lt : ¬ gk_f n T (Int32.toNatClampNeg 0) ≤ nI b → b < n := by
    intro c
    rw [gk_0, ks_le (by omega) (by omega)] at c
    omega
  refine bX10_mending_73 o1 q4 (h1.fdr 10 33 (by decide)) (h1.fdr 18 41 (by decide)) (by decide) (by decide) gk_in0 (fun c3 => ?_) (fun _ => gk_in1 (by omega)) (fun _ => gk_in1 (by omega)) (fun c3 => gk_in1 (by have := lt c3; omega)) (fun c3 => gk_in1 (by have := lt c3; omega)) (fun _ => gk_in0) (fun c3 => ?_)
  · rw [gk_0, ks_le (by omega) (by omega)] at c3
    obtain rfl : b = n := by omega
    rw [nI_1]
    exact ih () (by omega) trivial
  have lb := lt c3
  rw [gk_turns (by omega) (by omega) (by omega), gk_0, ks_all n (by omega)]
  have q5 : ra (mm_up M1 41 (mm_aI 15 (gk_f n (g_flip T a b)))) 41 n (g_flip T a b) := mm_at.s q4.1
  have back : ∀ {P : Option Value → mm_Mem → Prop} {v e1 e2 : Int32}, mm_X mX10_mending 4 none (0, 0) 73 [.ref 31, .int x, .int v, .int e1, .int e2, .int (nI a), .int (nI (b + 1))] [] M1 P → mm_X mX10_mending 4 none (0, 0) 126 [.ref 31, .int x, .int v, .int e1, .int e2, .int (nI a), .int (nI b)] [] (mm_up M1 41 (mm_aI 15 (gk_f n (g_flip T a b)))) P := by
    intro P v e1 e2 k
    refine bX10_mending_126 q5 ((h1.fdr 18 41 (by decide)).o (by decide)) (by decide) (gk_in1 (by omega)) (gk_in1 (by omega)) (gk_in1 (by omega)) (gk_in1 (by omega)) ?_
    rw [gk_turns (by omega) (by omega) (by omega), g_flip2 (by omega), mm_up_up, mm_up_id q4.2, nI_1]
    exact k
  refine mm_Call.eq (s_isCovered q5 (gw_flip hw (by omega) lb (by omega)) (ks_am n)) (by decide) (bX10_mending_109 (fun c4 => back ?_) (fun c4 c5 => bX10_mending_123 (back ?_)) (fun c4 c5 => bX10_mending_123 (back ?_)))
  · rw [ks_b0, ← g_mdT_bit lb] at c4
    have := ih2 () lb trivial
    rwa [glp_n c4] at this
  · rw [ks_b0, Classical.not_not, ← g_mdT_bit lb] at c4
    rw [ks_eq0 (by omega)] at c5
    have := ih2 () lb trivial
    rw [glp_s (by omega) c4, List.length_append] at this
    unfold g_md1 g_md2 at this ⊢
    rw [g_hd c5] at this
    rw [nI_1]
    exact this
  · rw [ks_b0, Classical.not_not, ← g_mdT_bit lb] at c4
    rw [ks_eq0 (by omega)] at c5
    have := ih2 () lb trivial
    rw [glp_s (by omega) c4, List.length_append] at this
    rw [nI_1]
    rw [List.length_eq_zero_iff.mp c5] at this ⊢
    exact this
