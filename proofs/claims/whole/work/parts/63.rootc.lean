/-! ROOT, ROOTLINE, BACK, DEPTH: of the class -/
noncomputable def o_root : g_st → Int32 → Int32 × g_st
  | (n, T, L, K, t, f, fk), x => (pif (g_any T) (if x = 0 then nI (nah (g_fst T) n) else if x = 1 then nI (rms (g_fst T) n) else if x = 2 then nI (g_parts n T) else -1) (-1), (n, T, L, K, t, f, fk))
noncomputable def o_rootLine : g_st → Int32 → Int32 → Option Int32
  | (n, T, _), x, y => pif (g_any T ∧ (∃ p, p < n ∧ x = nI p) ∧ (y = 0 ∨ y = 1)) (some (nI (re (g_fst T) x.toNatClampNeg y.toNatClampNeg))) none
def gok (q : Nat × (Nat → Nat)) : Prop := g_any q.2 ∧ nah (g_fst q.2) q.1 ≤ 14
noncomputable def gbk (q : Nat × (Nat → Nat)) : Nat × (Nat → Nat) := (nah (g_fst q.2) q.1, rtT (g_fst q.2) q.1)
noncomputable def dpt : Nat → Nat × (Nat → Nat) → Nat
  | 0, _ => 0
  | k + 1, q => pif (gok q) (1 + dpt k (gbk q)) 0
theorem dpt_y {k : Nat} {q : Nat × (Nat → Nat)} (h : gok q) : dpt (k + 1) q = 1 + dpt k (gbk q) := pif_t h
theorem dpt_n {k : Nat} {q : Nat × (Nat → Nat)} (h : ¬ gok q) : dpt k q = 0 := by
  cases k with
  | zero => rfl
  | succ k => exact pif_f h
noncomputable def o_back : g_st → Int32 × g_st
  | (n, T, L, K, t, f, fk) => pif (gok (n, T)) (nI (gbk (n, T)).1, ((gbk (n, T)).1, (gbk (n, T)).2, g_kp L (n, T), K, t, f, fk)) (-1, (n, T, L, K, t, f, fk))
noncomputable def o_depth : g_st → Int32 × g_st
  | (n, T, L, K, t, f, fk) => (nI (dpt 20 (n, T)), (n, T, L, K, t, f, fk))
theorem lkq_y {N : Nat} {T : Nat → Nat} {B : List Nat} (h : lkq T N B) (hN : N ≠ 0) : g_any T ∧ g_fst T = B ∧ two B := by
  rcases h.2 with ⟨q, -⟩ | ⟨-, q1, q2, q3⟩
  · exact absurd q hN
  · exact ⟨q1, q2.symm, two_cv q3⟩
theorem lkq_n {N : Nat} {T : Nat → Nat} {B : List Nat} (h : lkq T N B) (hN : N = 0) : ¬ g_any T := by
  rcases h.2 with ⟨-, q, -⟩ | ⟨q, -⟩
  · exact q
  · exact absurd hN q
theorem lkq_lb {n N : Nat} {T : Nat → Nat} {B : List Nat} (hw : gw n T) (h : lkq T N B) : B.length ≤ 14 ∧ ∀ C, C ∈ B → C < 16384 := by
  obtain ⟨h1, h2⟩ := lkq_len hw h
  have := hw.1
  exact ⟨by omega, fun C hC => ks_p14 hw.1 (h2 C hC)⟩
theorem gw_gbk {n : Nat} {T : Nat → Nat} (h : gok (n, T)) {N : Nat} {B : List Nat} (hk : lkq T N B) : gw (gbk (n, T)).1 (gbk (n, T)).2 := by
  have hN : N ≠ 0 := fun q => lkq_n hk q h.1
  obtain ⟨-, q2, q3⟩ := lkq_y hk hN
  have h2 := h.2
  show gw (nah (g_fst T) n) (rtT (g_fst T) n)
  rw [show (n, T).2 = T from rfl, show (n, T).1 = n from rfl] at h2
  rw [q2] at h2 ⊢
  exact gw_rt h2 (reg_of q3) n (Nat.le_refl n)
theorem oC_root {M : mm_Mem} {σ : g_st} {x : Int32} (h : CS M σ) : OC 20 mX9_root [.int x] M (o_root σ x) := by
  obtain ⟨n, T, L, K, t, f, fk⟩ := σ
  obtain ⟨-, hw⟩ := h.here
  have hn := hw.1
  have rc := (h.cvx.1 (0, 12) (by decide)).rc
  refine mm_S.of rfl rfl (Nat.le_of_ble_eq_true rfl) ndC (bX9_root_0 (h.fd 4 11 (by decide)) (h.fd 0 1 (by decide)) rc (mm_Call.of (s_look1 h) (by decide) ?_))
  rintro _ M1 ⟨rfl, h1, ⟨N, B, k1, k2⟩, e⟩
  have lb := lkq_lb hw k2
  obtain ⟨o1, -⟩ := h1.here
  have yes : ¬ nI (min 999 N) = 0 → g_any T ∧ g_fst T = B ∧ two B := fun c => by
    rw [ks_eq0 (by omega)] at c
    exact lkq_y k2 (by omega)
  refine bX9_root_11 o1.1 (h1.fd 4 11 (by decide)) k1.1.2.2.2 (h1.fd 0 1 (by decide)) (by decide) (fun c c1 => ?_) (fun c c1 c2 => ?_) (fun c c1 c2 c3 => ?_) (fun c c1 c2 c3 => ?_) (fun c => ?_)
  · obtain ⟨q1, q2, q3⟩ := yes c
    refine mm_Call.eq (s_rootPoints k1 lb q3 hn) (by decide) (bX9_root_59 ⟨?_, h1, e⟩)
    dsimp only [o_root]
    rw [pif_t q1, if_pos c1, q2]
  · obtain ⟨q1, q2, q3⟩ := yes c
    refine mm_Call.eq (s_rootMostLines k1 lb q3 hn) (by decide) (bX9_root_67 ⟨?_, h1, e⟩)
    dsimp only [o_root]
    rw [pif_t q1, if_neg c1, if_pos c2, q2]
  · obtain ⟨q1, q2, q3⟩ := yes c
    refine mm_Call.eq (s_parts o1 hw) (by decide) (bX9_root_75 ⟨?_, h1, e⟩)
    dsimp only [o_root]
    rw [pif_t q1, if_neg c1, if_neg c2, if_pos c3]
  · obtain ⟨q1, q2, q3⟩ := yes c
    dsimp only [o_root]
    rw [pif_t q1, if_neg c1, if_neg c2, if_neg c3]
    exact ⟨rfl, h1, e⟩
  · rw [ks_eq0 (by omega)] at c
    dsimp only [o_root]
    rw [pif_f (lkq_n k2 (by omega))]
    exact ⟨rfl, h1, e⟩
theorem xC_rootLine {M : mm_Mem} {σ : g_st} {x y : Int32} {sc : mm_SC} {z : Nat × Nat} (h : CS M σ) : mm_X mX9_rootLine 20 sc z 0 [.ref 0, .int x, .int y] [] M (xC M σ (o_rootLine σ x y)) := by
  obtain ⟨n, T, L, K, t, f, fk⟩ := σ
  obtain ⟨-, hw⟩ := h.here
  have hn := hw.1
  have rc := (h.cvx.1 (0, 12) (by decide)).rc
  refine bX9_rootLine_0 (h.fd 4 11 (by decide)) (h.fd 0 1 (by decide)) rc (mm_Call.of (s_look1 h) (by decide) ?_)
  rintro _ M1 ⟨rfl, h1, ⟨N, B, k1, k2⟩, e⟩
  have lb := lkq_lb hw k2
  obtain ⟨o1, -⟩ := h1.here
  have nay : ¬ (g_any T ∧ (∃ p, p < n ∧ x = nI p) ∧ (y = 0 ∨ y = 1)) → xC M (n, T, L, K, t, f, fk) (o_rootLine (n, T, L, K, t, f, fk) x y) mm_thrown M1 := fun q => by
    refine ⟨?_, h1, e⟩
    dsimp only [o_rootLine]
    rw [pif_f q]
    rfl
  refine bX9_rootLine_11 o1.1 (h1.fd 4 11 (by decide)) k1.1.2.2.2 (h1.fd 0 1 (by decide)) (by decide) (fun c => nay fun q => ?_) (fun c c1 => nay fun q => ?_) (fun c c1 c2 => nay fun q => ?_) (fun c c1 c2 c3 => ?_) (fun c c1 c2 c3 => nay fun q => ?_)
  · rw [ks_eq0 (by omega)] at c
    exact lkq_n k2 (by omega) q.1
  · rw [q_holds hn, ks_b0] at c1
    exact c1 q.2.1
  · exact ((ks_01 y).mp q.2.2).1 c2
  · rw [ks_eq0 (by omega)] at c
    rw [q_holds hn, ks_b0, Classical.not_not] at c1
    have hy := (ks_01 y).mpr ⟨c2, c3⟩
    obtain ⟨q1, q2, q3⟩ := lkq_y k2 (by omega)
    obtain ⟨p, hp, rfl⟩ := id c1
    obtain ⟨w, hw2, rfl⟩ : ∃ w, w < 2 ∧ y = nI w := by
      rcases hy with rfl | rfl
      · exact ⟨0, by decide, rfl⟩
      · exact ⟨1, by decide, rfl⟩
    refine mm_Call.eq (s_rootEnd (w := w) k1 lb q3 (show p < 14 by omega) hw2) (by decide) (bX9_rootLine_58 ⟨?_, h1, e⟩)
    dsimp only [o_rootLine]
    rw [pif_t ⟨q1, c1, hy⟩, nI_clamp (by omega), nI_clamp (by omega), q2]
    rfl
  · exact c3 ((ks_01 y).mp q.2.2).2
theorem oC_back {M : mm_Mem} {σ : g_st} (h : CS M σ) : OC 20 mX9_back [] M (o_back σ) := by
  obtain ⟨n, T, L, K, t, f, fk⟩ := σ
  obtain ⟨-, hw⟩ := h.here
  have hn := hw.1
  have rc := (h.cvx.1 (0, 12) (by decide)).rc
  refine mm_S.of rfl rfl (Nat.le_of_ble_eq_true rfl) ndC (bX9_back_0 (h.fd 4 11 (by decide)) (h.fd 0 1 (by decide)) rc (mm_Call.of (s_look1 h) (by decide) ?_))
  rintro _ M1 ⟨rfl, h1, ⟨N, B, k1, k2⟩, e⟩
  have lb := lkq_lb hw k2
  obtain ⟨o1, -⟩ := h1.here
  obtain ⟨-, -, -, k3, -, -, -, -, -, k11⟩ := id h1
  obtain ⟨oo, C, ac1⟩ := id k11
  have tw : min 999 N ≠ 0 → two B := fun c => (lkq_y k2 (by omega)).2.2
  refine bX9_back_11 (h1.fd 4 11 (by decide)) k1.1.2.1.rc (mm_Call.eq (s_leadsBack k1 lb tw (by omega) hn) (by decide) (bX9_back_18 ac1.1 (h1.fd 8 26 (by decide)) (h1.fd 0 1 (by decide)) (fun c => ?_) (fun c => ?_)))
  · rw [ks_b0, Classical.not_not] at c
    obtain ⟨q1, q2, q3⟩ := lkq_y k2 (by omega)
    have hg : gok (n, T) := ⟨q1, by rw [show (n, T).2 = T from rfl, q2]; exact c.2⟩
    dsimp only [o_back]
    rw [pif_t hg]
    refine mm_Call.of (s_keep k11 o1 hw (by decide)) (by decide) ?_
    rintro _ M2 ⟨rfl, a1, a2⟩
    have k1' : cvm M2 n T z0 [] (min 999 N) B := ⟨k1.1.eq (a2 11 (by decide) (by decide)), k1.2.1.eq (a2 12 (by decide) (by decide)), k1.2.2.1.eq (a2 13 (by decide) (by decide)), k1.2.2.2.1.eq (a2 14 (by decide) (by decide)), k1.2.2.2.2.eq (a2 15 (by decide) (by decide))⟩
    have o2 := o1.eq (a2 1 (by decide) (by decide)) (a2 2 (by decide) (by decide))
    have f4 := (h1.fd 4 11 (by decide)).eq (a2 0 (by decide) (by decide))
    have f0 := (h1.fd 0 1 (by decide)).eq (a2 0 (by decide) (by decide))
    refine bX9_back_34 f4 f0 k1'.1.2.1.rc (mm_Call.eq (s_writeRoot k1' lb q3 hn c.2 o2 hw (by decide)) (by decide) ?_)
    have qn : na (mm_net M2 1 (nah B n) (rtT B n)) 1 (nah B n) (rtT B n) := mm_net_na (by decide)
    have e3 : ∀ j, j ≠ 1 → j ≠ 2 → mm_net M2 1 (nah B n) (rtT B n) j = M2 j := fun j j1 j2 => mm_net_n j1 j2
    have eg : gbk (n, T) = (nah B n, rtT B n) := by
      unfold gbk
      rw [show (n, T).2 = T from rfl, q2]
    have gwn := gw_gbk hg k2
    rw [eg] at gwn ⊢
    generalize mm_net M2 1 (nah B n) (rtT B n) = M3 at qn e3 ⊢
    refine bX9_back_45 qn.1 (f0.eq (e3 0 (by decide) (by decide))) (by decide) ⟨rfl, h1.act (co_same (by rw [e3 0 (by decide) (by decide), a2 0 (by decide) (by decide)])) qn gwn (k3.eq (by rw [e3 3 (by decide) (by decide), a2 3 (by decide) (by decide)]) (by rw [e3 4 (by decide) (by decide), a2 4 (by decide) (by decide)])) (a1.eq fun j j1 j2 => e3 j (by omega) (by omega)) (fun j j1 j2 j3 => by rw [e3 j (by omega) (by omega), a2 j (by omega) (by omega)]), fun j hj => by rw [e3 j (by omega) (by omega), a2 j (by omega) (by omega), e j hj]⟩
  · rw [ks_b0] at c
    dsimp only [o_back]
    rw [pif_f (show ¬ gok (n, T) from fun q => c (by
      have hN : N ≠ 0 := fun w => lkq_n k2 w q.1
      obtain ⟨q1, q2, q3⟩ := lkq_y k2 hN
      have := q.2
      rw [show (n, T).2 = T from rfl, q2] at this
      exact ⟨by omega, this⟩))]
    exact ⟨rfl, h1, e⟩
theorem oC_depth {M : mm_Mem} {σ : g_st} (h : CS M σ) : OC 20 mX9_depth [] M (o_depth σ) := by
  obtain ⟨n, T, L, K, t, f, fk⟩ := σ
  obtain ⟨o, hw⟩ := h.here
  obtain ⟨n3, T3, o3, hw3⟩ := h.trial
  refine mm_S.of rfl rfl (Nat.le_of_ble_eq_true rfl) ndC (bX9_depth_0 o3.1 (h.fd 1 3 (by decide)) (h.fd 0 1 (by decide)) (mm_Call.eq (s_copyN o3 o hw3 hw (by decide) (by decide) (by decide)) (by decide) (bX9_depth_11 ?_)))
  have q3 : na (mm_net M 3 n T) 3 n T := mm_net_na (by decide)
  have h1 : CS (mm_net M 3 n T) (n, T, L, K, t, f, fk) := h.tr ⟨n, T, q3, hw⟩ fun j j3 j4 => mm_net_n j3 j4
  have e1 : fC M (mm_net M 3 n T) := fun j hj => mm_net_n (by omega) (by omega)
  generalize mm_net M 3 n T = M1 at q3 h1 e1 ⊢
  rw [show (0 : Int32) = nI 0 from rfl]
  refine fld (s := 0) (n := 20) (G := fun k (q : mm_Mem × (Nat × (Nat → Nat))) => mm_X mX9_depth 20 none (0, 0) 15 [.ref 0, .int (nI k), .int (nI k)] [] q.1 _) (v0 := (M1, (n, T))) (I := fun k q => CS q.1 (n, T, L, K, t, f, fk) ∧ fC M q.1 ∧ na q.1 3 q.2.1 q.2.2 ∧ gw q.2.1 q.2.2 ∧ dpt 20 (n, T) = k + dpt (20 - k) q.2) (Nat.zero_le _) ⟨h1, e1, q3, hw, (Nat.zero_add _).symm⟩ ?_
  rintro k ⟨M2, m, U⟩ _ hk ⟨b1, b2, b3, b4, b5⟩ ih
  dsimp only at b1 b2 b3 b4 b5
  have rc := (b1.cvx.1 (0, 12) (by decide)).rc
  have hm := b4.1
  refine bX9_depth_15 (b1.fd 4 11 (by decide)) (b1.fd 1 3 (by decide)) rc (fun c => ?_) (fun c => ?_)
  · rw [show (20 : Int32) = nI 20 from rfl, ks_le (by omega) (by omega)] at c
    obtain rfl : k = 20 := by omega
    refine ⟨?_, b1, b2⟩
    dsimp only [o_depth]
    rw [b5]
    rfl
  rw [show (20 : Int32) = nI 20 from rfl, ks_le (by omega) (by omega)] at c
  refine mm_Call.of (s_lookC b3 b4 (by decide) b1.cvx) (by decide) ?_
  rintro _ M3 ⟨rfl, ⟨N, B, k1, k2⟩, k3⟩
  have lb := lkq_lb b4 k2
  have d1 : CS M3 (n, T, L, K, t, f, fk) := b1.cvu k1.cc k3
  have d2 : fC M M3 := fun j hj => (k3 j (by omega)).trans (b2 j hj)
  have d3 : na M3 3 m U := b3.eq (k3 3 (by decide)) (k3 4 (by decide))
  have tw : min 999 N ≠ 0 → two B := fun c => (lkq_y k2 (by omega)).2.2
  refine bX9_depth_32 (d1.fd 4 11 (by decide)) k1.1.2.1.rc (mm_Call.eq (s_leadsBack k1 lb tw (by omega) hm) (by decide) (bX9_depth_39 (d1.fd 4 11 (by decide)) (d1.fd 1 3 (by decide)) k1.1.2.1.rc (fun c1 => ?_) (fun c1 => ?_)))
  · rw [ks_b0, Classical.not_not] at c1
    obtain ⟨q1, q2, q3⟩ := lkq_y k2 (by omega)
    have hg : gok (m, U) := ⟨q1, by rw [show (m, U).2 = U from rfl, q2]; exact c1.2⟩
    have eg : gbk (m, U) = (nah B m, rtT B m) := by
      unfold gbk
      rw [show (m, U).2 = U from rfl, q2]
    have gwn := gw_gbk hg k2
    rw [eg] at gwn
    refine mm_Call.eq (s_writeRoot k1 lb q3 hm c1.2 d3 b4 (by decide)) (by decide) (bX9_depth_56 ?_)
    have qn : na (mm_net M3 3 (nah B m) (rtT B m)) 3 (nah B m) (rtT B m) := mm_net_na (by decide)
    rw [nI_1]
    refine ih (_, (nah B m, rtT B m)) (by omega) ⟨d1.tr ⟨_, _, qn, gwn⟩ fun j j3 j4 => mm_net_n j3 j4, fun j hj => (mm_net_n (by omega) (by omega)).trans (d2 j hj), qn, gwn, ?_⟩
    rw [b5, show 20 - k = (20 - (k + 1)) + 1 from by omega, dpt_y hg, eg]
    exact (Nat.add_assoc _ _ _).symm
  · rw [ks_b0] at c1
    refine ⟨?_, d1, d2⟩
    dsimp only [o_depth]
    rw [b5, dpt_n (show ¬ gok (m, U) from fun q => c1 (by
      have hN : N ≠ 0 := fun w => lkq_n k2 w q.1
      obtain ⟨q1, q2, q3⟩ := lkq_y k2 hN
      have := q.2
      rw [show (m, U).2 = U from rfl, q2] at this
      exact ⟨by omega, this⟩))]
    rfl
