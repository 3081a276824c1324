/-! CALLS OF BOTH SIDES: undo, image, restore, meet -/
theorem sl_row {n0 n : Nat} {T0 T : Nat → Nat} (h0 : gw n0 T0) (h : gw n T) : sl_put (gk_f n0 T0) 0 n T = gk_f n T := by
  funext i
  unfold sl_put
  by_cases e : i < 15
  · rw [if_pos ⟨Nat.zero_le i, by omega⟩]
    rfl
  · rw [if_neg (by omega)]
    unfold gk_f
    rw [if_neg (by omega), if_neg (by omega), h0.2.2.1 _ (by have := h0.1; omega), h.2.2.1 _ (by have := h.1; omega)]
def o_undo : g_st → Int32 × g_st
  | (n, T, L, K, t, f, fk) => match L.getLast? with
    | none => (-1, (n, T, L, K, t, f, fk))
    | some q => (nI (L.length - 1), (q.1, q.2, L.dropLast, K, t, f, fk))
theorem o_undo_0 {n : Nat} {T : Nat → Nat} {K : g_kept} {t : Nat} {f : Nat → Int32} {fk : Int32} : o_undo (n, T, [], K, t, f, fk) = (-1, (n, T, [], K, t, f, fk)) := rfl
theorem o_undo_s {n : Nat} {T : Nat → Nat} {L : g_nets} {q : Nat × (Nat → Nat)} {K : g_kept} {t : Nat} {f : Nat → Int32} {fk : Int32} : o_undo (n, T, L ++ [q], K, t, f, fk) = (nI L.length, (q.1, q.2, L, K, t, f, fk)) := by
  dsimp only [o_undo]
  rw [List.getLast?_concat, List.dropLast_concat, List.length_append]
  rfl
theorem oC_undo {M : mm_Mem} {σ : g_st} (h : CS M σ) : OC 4 mX9_undo [] M (o_undo σ) := by
  obtain ⟨n, T, L, K, t, f, fk⟩ := σ
  obtain ⟨⟨pf, sd, h1, h2⟩, h3, h4, h5, h6, h7, h8, h9, h10, h11⟩ := id h
  obtain ⟨oo, C, ac1⟩ := id h11
  rcases List.eq_nil_or_concat L with rfl | ⟨L', q, e⟩
  · rw [o_undo_0]
    exact mm_S.of rfl rfl (Nat.le_of_ble_eq_true rfl) ndC (bX9_undo_0 ac1.1 (h1.r 8 26 (by decide)) (h1.r 0 1 (by decide)) (mm_Call.eq (s_takeBack0 h11) (by decide) (bX9_undo_11 ⟨rfl, h, fun _ _ => rfl⟩)))
  · rw [List.concat_eq_append] at e
    subst e
    rw [o_undo_s]
    refine mm_S.of rfl rfl (Nat.le_of_ble_eq_true rfl) ndC (bX9_undo_0 ac1.1 (h1.r 8 26 (by decide)) (h1.r 0 1 (by decide)) (mm_Call.of (s_takeBack h11 h3 h4 (by decide)) (by decide) ?_))
    rintro _ M' ⟨rfl, k1, k2, k3, k4⟩
    exact bX9_undo_11 ⟨rfl, h.act (co_same (k4 0 (by decide) (by decide) (by decide))) k2 k3 (h5.eq (k4 3 (by decide) (by decide) (by decide)) (k4 4 (by decide) (by decide) (by decide))) k1 fun j h1 h2 h3 => k4 j (by omega) (by omega) (by omega), fun j hj => k4 j (by omega) (by omega) (by omega)⟩
theorem oM_undo {M : mm_Mem} {σ : g_st} (h : MS M σ) : OM 1 mX10_undo [] M (o_undo σ) := by
  obtain ⟨n, T, L, K, t, f, fk⟩ := σ
  obtain ⟨th, h⟩ := h
  obtain ⟨⟨F, w, m1, m2, m3, m4, m5⟩, h3, h4, ⟨h5, h5'⟩, ⟨C, h6, h6'⟩, h7, h8⟩ := id h
  have hz := h.z
  have f21 := m1.i 21 (by decide)
  rw [m5] at f21
  have l8 := h6'.1
  rcases List.eq_nil_or_concat L with rfl | ⟨L', q, e⟩
  · rw [o_undo_0]
    exact mm_S.of rfl rfl (Nat.le_of_ble_eq_true rfl) ndM (bX10_undo_0 (m1.i 0 (by decide)) f21 (m1.r 13 36 (by decide)) (m1.r 10 33 (by decide)) (fun c => absurd rfl c) (fun _ => ⟨rfl, ⟨_, hz⟩, fM_z⟩))
  · rw [List.concat_eq_append] at e
    subst e
    rw [o_undo_s]
    rw [List.length_append, List.length_singleton] at f21 l8
    refine mm_S.of rfl rfl (Nat.le_of_ble_eq_true rfl) ndM (bX10_undo_0 (m1.i 0 (by decide)) f21 (m1.r 13 36 (by decide)) (m1.r 10 33 (by decide)) (fun c => ?_) (fun c => ?_))
    · rw [nI_pred, ks_15, pk_mul]
      have mm := m1.s0.set 21 (nI L'.length) (by decide)
      have o1 : ra (mm_upF (mm_upF M 31 0 (.int 0)) 31 21 (.int (nI L'.length))) 33 n T := (h3.nF (by decide)).nF (by decide)
      have o2 := (h6.nF (a := 31) (k := 0) (v := .int 0) (by decide)).nF (a := 31) (k := 21) (v := .int (nI L'.length)) (by decide)
      obtain ⟨s1, s2⟩ := h6'.2 L'.length q (by rw [List.getElem?_append_right (Nat.le_refl _), Nat.sub_self]; rfl)
      refine mm_Call.eq (s_copyM o2 o1 (by decide) s1 (by omega) (by decide) (by decide) (by decide)) (by decide) ?_
      rw [sl_row h4 s2]
      have mm2 := mm.up (a := 33) (c := mm_aI 15 (gk_f q.1 q.2)) (by decide)
      have g21 := mm2.i 21 (by decide)
      rw [pk_us] at g21
      have e : ∀ j, j ≠ 31 → j ≠ 33 → mm_up (mm_upF (mm_upF M 31 0 (.int 0)) 31 21 (.int (nI L'.length))) 33 (mm_aI 15 (gk_f q.1 q.2)) j = M j := fun j j1 j2 => by rw [mm_up_n j2, mm_upF_n j1, mm_upF_n j1]
      refine bX10_undo_43 g21 ⟨rfl, ⟨_, h.act mm2 ?_ ?_ (mm_at.s o1.1) s2 pk_us (h6.eq (e 36 (by decide) (by decide))) ⟨by omega, fun j x hx => ?_⟩ (e 32 (by decide) (by decide)) (e 35 (by decide) (by decide)) (e 43 (by decide) (by decide)) (h8.eq fun j _ _ _ _ _ => e j (by omega) (by omega))⟩, fun j hj => e j (by omega) (by omega)⟩
      · rw [pk_un (by decide), pk_un (by decide)]; exact m3
      · rw [pk_un (by decide), pk_un (by decide)]; exact m4
      · exact h6'.2 j x (by rw [List.getElem?_append_left (List.getElem?_eq_some_iff.mp hx).1, hx])
    · rw [ks_eq0 (by omega)] at c
      omega
/-! the two places -/
noncomputable def o_image : g_st → Int32 → Int32 × g_st
  | (n, T, L, K, t, f, fk), x => pif (∃ k, k < 2 ∧ x = nI k) (1, (n, T, L, fun j => if j = x.toNatClampNeg then some (n, T) else K j, t, f, fk)) (0, (n, T, L, K, t, f, fk))
theorem ks_p01 (x : Int32) : (∃ k, k < 2 ∧ x = nI k) ↔ (¬ x < 0 ∧ x < 2) := by
  constructor
  · rintro ⟨k, hk, rfl⟩
    exact ⟨nI_pos (by omega), by rw [show (2 : Int32) = nI 2 from rfl, ks_ltI (by omega) (by decide)]; exact hk⟩
  · rintro ⟨h1, h2⟩
    obtain ⟨j, h3, h4⟩ := nI_of2 (M := nI 2) (n := 2) (nI_toInt (by decide)) h1 (Int32.le_of_lt h2)
    refine ⟨j, ?_, h4⟩
    rw [h4, show (2 : Int32) = nI 2 from rfl, ks_ltI (by omega) (by decide)] at h2
    exact h2
theorem q_isIn01 (x : Int32) : qX10_isIn x 0 1 = ks_b (∃ k, k < 2 ∧ x = nI k) := by
  have := q_isIn (n := 2) (by decide) x
  rwa [show nI 2 - 1 = (1 : Int32) from by decide] at this
theorem oC_image {M : mm_Mem} {σ : g_st} {x : Int32} (h : CS M σ) : OC 3 mX9_image [.int x] M (o_image σ x) := by
  obtain ⟨n, T, L, K, t, f, fk⟩ := σ
  obtain ⟨⟨pf, sd, h1, p1, C, p2, ⟨b, b1, rfl, b2⟩, p3⟩, h3, h4, h5, h6, h7, h8, h9, h10, h11⟩ := id h
  have no : ¬ (∃ k, k < 2 ∧ x = nI k) → some (Value.int 0) = some (.int (o_image (n, T, L, K, t, f, fk) x).1) ∧ CS M (o_image (n, T, L, K, t, f, fk) x).2 ∧ fC M M := by
    intro q
    dsimp only [o_image]
    rw [pif_f q]
    exact ⟨rfl, h, fun _ _ => rfl⟩
  refine mm_S.of rfl rfl (Nat.le_of_ble_eq_true rfl) ndC (bX9_image_0 p1 (h1.r 9 29 (by decide)) (h1.r 0 1 (by decide)) (fun c => no fun q => ((ks_p01 x).mp q).1 c) (fun c c1 => ?_) (fun _ c1 => no fun q => c1 ((ks_p01 x).mp q).2))
  obtain ⟨k, hk, rfl⟩ := (ks_p01 x).mpr ⟨c, c1⟩
  refine mm_Call.eq (s_save p1 p2 h3 (by omega) (by decide) (by decide) (by decide)) (by decide) ?_
  have g1' := h1.eq (M' := mm_up M 30 (mm_aI 120 (sl_put C (15 * k) n T))) (mm_up_n (by decide))
  refine bX9_image_23 g1'.2.1 ?_
  have lt : 2 ^ k < 4 := by
    have := ks_p2_lt (n := 2) hk
    exact this
  rw [ks_shl1 _ (by omega), nx_or]
  dsimp only [o_image]
  rw [pif_t ⟨k, hk, rfl⟩, nI_clamp (by omega)]
  have e : ∀ j, j ≠ 0 → j ≠ 30 → mm_upF (mm_up M 30 (mm_aI 120 (sl_put C (15 * k) n T))) 0 10 (.int (nI (b ||| 2 ^ k))) j = M j := fun j j1 j2 => by rw [mm_upF_n j1, mm_up_n j2]
  refine ⟨rfl, ⟨⟨_, sd, g1'.setp _, p1.eq (e 29 (by decide) (by decide)), _, (mm_at.s p2.1).nF (by decide), ⟨b ||| 2 ^ k, Nat.or_lt_two_pow (n := 2) b1 lt, rfl, fun j hj => ?_⟩, fun j q hj hq => ?_⟩, h3.eq (e 1 (by decide) (by decide)) (e 2 (by decide) (by decide)), h4, h5.eq (e 3 (by decide) (by decide)) (e 4 (by decide) (by decide)), h6.eq (e 5 (by decide) (by decide)) (e 6 (by decide) (by decide)), h7.eq fun j _ _ => e j (by omega) (by omega), h8.eq fun j _ _ => e j (by omega) (by omega), h9.eq fun j _ _ => e j (by omega) (by omega), h10.eq fun j _ _ => e j (by omega) (by omega), h11.eq fun j _ _ => e j (by omega) (by omega)⟩, fun j hj => e j (by omega) (by omega)⟩
  · rw [Nat.testBit_or, ks_p2, Bool.or_eq_true, decide_eq_true_eq, b2 j hj]
    show _ ↔ (if j = k then some (n, T) else K j) ≠ none
    by_cases q : j = k
    · rw [if_pos q]
      exact ⟨fun _ h => (by cases h), fun _ => Or.inr q.symm⟩
    · rw [if_neg q]
      exact ⟨fun h => by
        rcases h with h | h
        · exact h
        · exact absurd h.symm q, Or.inl⟩
  · by_cases r : j = k
    · subst r
      dsimp only at hq
      rw [if_pos rfl] at hq
      cases hq
      exact ⟨sl_put_at, h4⟩
    · dsimp only at hq
      rw [if_neg r] at hq
      obtain ⟨s1, s2⟩ := p3 j q hj hq
      exact ⟨sl_put_n s1 (by omega), s2⟩
theorem oM_image {M : mm_Mem} {σ : g_st} {x : Int32} (h : MS M σ) : OM 1 mX10_image [.int x] M (o_image σ x) := by
  obtain ⟨n, T, L, K, t, f, fk⟩ := σ
  obtain ⟨th, h⟩ := h
  obtain ⟨⟨F, w, m1, m2, m3, m4, m5⟩, h3, h4, ⟨h5, h5'⟩, ⟨C0, h6, h6'⟩, ⟨C, D, p1, p2, p3, p4⟩, h8⟩ := id h
  have hz := h.z
  refine mm_S.of rfl rfl (Nat.le_of_ble_eq_true rfl) ndM (bX10_image_0 (m1.i 0 (by decide)) (m1.r 10 33 (by decide)) (m1.r 12 35 (by decide)) (by decide) (fun c => ?_) (fun c => ?_))
  · rw [q_isIn01, ks_b0, Classical.not_not] at c
    obtain ⟨k, hk, rfl⟩ := c
    rw [ks_15, pk_mul]
    have z3 := h3.nF (a := 31) (k := 0) (v := .int 0) (by decide)
    have z1 := p1.nF (a := 31) (k := 0) (v := .int 0) (by decide)
    refine mm_Call.eq (s_copyM (s := 0) z3 z1 (by decide) gk_at0 (by decide) (by omega) (by decide) (by decide)) (by decide) ?_
    have z2 := (p2.nF (a := 31) (k := 0) (v := .int 0) (by decide)).n (a := 35) (c' := mm_aI 30 (sl_put C (15 * k) n T)) (by decide)
    refine bX10_image_32 z2 ((m1.s0.r 20 43 (by decide)).o (by decide)) (vp_in_nI hk (by decide)) ?_
    rw [nI_clamp (by omega)]
    dsimp only [o_image]
    rw [pif_t ⟨k, hk, rfl⟩, nI_clamp (by omega)]
    have e : ∀ j, j ≠ 31 → j ≠ 35 → j ≠ 43 → mm_up (mm_up (mm_upF M 31 0 (.int 0)) 35 (mm_aI 30 (sl_put C (15 * k) n T))) 43 (mm_aZ 2 (upd D k (vp_nar .boolean 1))) j = M j := fun j j1 j2 j3 => by rw [mm_up_n j3, mm_up_n j2, mm_upF_n j1]
    refine ⟨rfl, ⟨_, ⟨_, w, (m1.s0.up (by decide)).up (by decide), rfl, by rw [pk_un (by decide)]; exact m3, by rw [pk_un (by decide)]; exact m4, by rw [pk_un (by decide)]; exact m5⟩, h3.eq (e 33 (by decide) (by decide) (by decide)), h4, ⟨mm_at.eq h5 (e 32 (by decide) (by decide) (by decide)), h5'⟩, ⟨C0, h6.eq (e 36 (by decide) (by decide) (by decide)), h6'⟩, ⟨_, _, (mm_at.s z1.1).n (by decide), mm_at.s z2.1, fun j hj => ?_, fun j q hj hq => ?_⟩, h8.eq fun j _ _ _ _ _ => e j (by omega) (by omega) (by omega)⟩, fun j hj => e j (by omega) (by omega) (by omega)⟩
    · show _ ↔ (if j = k then some (n, T) else K j) = none
      by_cases r : j = k
      · subst r
        rw [if_pos rfl, pk_us]
        exact ⟨fun h => absurd h (by decide), fun h => (by cases h)⟩
      · rw [if_neg r, pk_un r]
        exact p3 j hj
    · by_cases r : j = k
      · subst r
        dsimp only at hq
        rw [if_pos rfl] at hq
        cases hq
        exact ⟨sl_put_at, h4⟩
      · dsimp only at hq
        rw [if_neg r] at hq
        obtain ⟨s1, s2⟩ := p4 j q hj hq
        exact ⟨sl_put_n s1 (by omega), s2⟩
  · rw [q_isIn01, ks_b0] at c
    dsimp only [o_image]
    rw [pif_f c]
    exact ⟨rfl, ⟨_, hz⟩, fM_z⟩
def o_restore : g_st → Int32 → Int32 × g_st
  | (n, T, L, K, t, f, fk), x => if x.toNatClampNeg < 2 ∧ x = nI x.toNatClampNeg then (match K x.toNatClampNeg with
    | none => (0, (n, T, L, K, t, f, fk))
    | some q => (1, (q.1, q.2, [], K, t, f, fk))) else (0, (n, T, L, K, t, f, fk))
theorem o_restore_n {n : Nat} {T : Nat → Nat} {L : g_nets} {K : g_kept} {t : Nat} {f : Nat → Int32} {fk x : Int32} (h : ¬ ∃ k, k < 2 ∧ x = nI k) : o_restore (n, T, L, K, t, f, fk) x = (0, (n, T, L, K, t, f, fk)) := by
  dsimp only [o_restore]
  rw [if_neg fun q => h ⟨_, q⟩]
theorem o_restore_0 {n k : Nat} {T : Nat → Nat} {L : g_nets} {K : g_kept} {t : Nat} {f : Nat → Int32} {fk : Int32} (hk : k < 2) (h : K k = none) : o_restore (n, T, L, K, t, f, fk) (nI k) = (0, (n, T, L, K, t, f, fk)) := by
  dsimp only [o_restore]
  rw [nI_clamp (by omega), if_pos ⟨hk, rfl⟩, h]
theorem o_restore_s {n k : Nat} {T : Nat → Nat} {L : g_nets} {K : g_kept} {t : Nat} {f : Nat → Int32} {fk : Int32} {q : Nat × (Nat → Nat)} (hk : k < 2) (h : K k = some q) : o_restore (n, T, L, K, t, f, fk) (nI k) = (1, (q.1, q.2, [], K, t, f, fk)) := by
  dsimp only [o_restore]
  rw [nI_clamp (by omega), if_pos ⟨hk, rfl⟩, h]
theorem oC_restore {M : mm_Mem} {σ : g_st} {x : Int32} (h : CS M σ) : OC 3 mX9_restore [.int x] M (o_restore σ x) := by
  obtain ⟨n, T, L, K, t, f, fk⟩ := σ
  obtain ⟨⟨pf, sd, h1, p1, C, p2, ⟨b, b1, rfl, b2⟩, p3⟩, h3, h4, h5, h6, h7, h8, h9, h10, h11⟩ := id h
  have no : ¬ (∃ k, k < 2 ∧ x = nI k) → some (Value.int 0) = some (.int (o_restore (n, T, L, K, t, f, fk) x).1) ∧ CS M (o_restore (n, T, L, K, t, f, fk) x).2 ∧ fC M M := by
    intro q
    rw [o_restore_n q]
    exact ⟨rfl, h, fun _ _ => rfl⟩
  refine mm_S.of rfl rfl (Nat.le_of_ble_eq_true rfl) ndC (bX9_restore_0 p1 h1.2.1 (h1.r 9 29 (by decide)) (h1.r 0 1 (by decide)) (by decide) (fun c => no fun q => ((ks_p01 x).mp q).1 c) (fun _ c1 => no fun q => Int32.not_lt.mpr c1 ((ks_p01 x).mp q).2) (fun c c1 c2 => ?_) (fun c c1 c2 => ?_))
  all_goals
    obtain ⟨k, hk, rfl⟩ := (ks_p01 x).mpr ⟨c, Int32.not_le.mp c1⟩
    rw [ks_has (by omega) (by omega), ks_b0, b2 k hk] at c2
  · obtain ⟨q, hq⟩ : ∃ q, K k = some q := by
      cases e : K k with
      | none => exact absurd (fun h => h e) c2
      | some q => exact ⟨q, rfl⟩
    rw [o_restore_s hk hq]
    obtain ⟨s1, s2⟩ := p3 k q hk hq
    refine mm_Call.eq (s_load p1 p2 h3 h4 s1 s2 (by omega) (by decide) (by decide) (by decide) (by decide)) (by decide) ?_
    have e : ∀ j, j ≠ 1 → j ≠ 2 → mm_net M 1 q.1 q.2 j = M j := fun j j1 j2 => mm_net_n j1 j2
    have g1' := h1.eq (e 0 (by decide) (by decide))
    obtain ⟨oo, C', a1, a2, a3, a4, a5, a6⟩ := h11.eq fun j j1 j2 => e j (by omega) (by omega)
    refine bX9_restore_34 a1 (g1'.r 8 26 (by decide)) (by decide) ?_
    have e' : ∀ j, j ≠ 1 → j ≠ 2 → j ≠ 26 → mm_up (mm_net M 1 q.1 q.2) 26 (mm_aO 0 [.ref 27, .int (nI oo), .int 0]) j = M j := fun j j1 j2 j3 => by rw [mm_up_n j3, e j j1 j2]
    have qn : na (mm_net M 1 q.1 q.2) 1 q.1 q.2 := mm_net_na (by decide)
    exact ⟨rfl, h.act (co_same (e' 0 (by decide) (by decide) (by decide))) (qn.eq (mm_up_n (by decide)) (mm_up_n (by decide))) s2 (h5.eq (e' 3 (by decide) (by decide) (by decide)) (e' 4 (by decide) (by decide) (by decide))) ⟨oo, C', mm_at.s a1.1, a2.n (by decide), a3.n (by decide), a4, by decide, fun j q h => by simp at h⟩ fun j j1 j2 j3 => e' j (by omega) (by omega) (by omega), fun j hj => e' j (by omega) (by omega) (by omega)⟩
  · have hq : K k = none := by
      cases e : K k with
      | none => rfl
      | some q => exact absurd (by rw [e]; exact fun h => by cases h) c2
    rw [o_restore_0 hk hq]
    exact ⟨rfl, h, fun _ _ => rfl⟩
theorem oM_restore {M : mm_Mem} {σ : g_st} {x : Int32} (h : MS M σ) : OM 1 mX10_restore [.int x] M (o_restore σ x) := by
  obtain ⟨n, T, L, K, t, f, fk⟩ := σ
  obtain ⟨th, h⟩ := h
  obtain ⟨⟨F, w, m1, m2, m3, m4, m5⟩, h3, h4, ⟨h5, h5'⟩, ⟨C0, h6, h6'⟩, ⟨C, D, p1, p2, p3, p4⟩, h8⟩ := id h
  have hz := h.z
  refine mm_S.of rfl rfl (Nat.le_of_ble_eq_true rfl) ndM (bX10_restore_0 p2 (m1.i 0 (by decide)) (m1.r 20 43 (by decide)) (m1.r 12 35 (by decide)) (m1.r 10 33 (by decide)) (by decide) (by decide) (fun c => ?_) (fun c => ?_) (fun c c1 => ?_) (fun c c1 => ?_))
  · rw [q_isIn01, ks_b0] at c
    rw [o_restore_n c]
    exact ⟨rfl, ⟨_, hz⟩, fM_z⟩
  · rw [q_isIn01, ks_b0, Classical.not_not] at c
    obtain ⟨k, hk, rfl⟩ := c
    exact vp_in_nI hk (by decide)
  all_goals
    rw [q_isIn01, ks_b0, Classical.not_not] at c
    obtain ⟨k, hk, rfl⟩ := c
    rw [nI_clamp (by omega), p3 k hk] at c1
  · obtain ⟨q, hq⟩ : ∃ q, K k = some q := by
      cases e : K k with
      | none => exact absurd e c1
      | some q => exact ⟨q, rfl⟩
    rw [o_restore_s hk hq]
    obtain ⟨s1, s2⟩ := p4 k q hk hq
    rw [ks_15, pk_mul]
    have z3 := h3.nF (a := 31) (k := 0) (v := .int 0) (by decide)
    have z1 := p1.nF (a := 31) (k := 0) (v := .int 0) (by decide)
    refine mm_Call.eq (s_copyM (t := 0) z1 z3 (by decide) s1 (by omega) (by decide) (by decide) (by decide)) (by decide) ?_
    rw [sl_row h4 s2]
    have mm := m1.s0.up (a := 33) (c := mm_aI 15 (gk_f q.1 q.2)) (by decide)
    have e : ∀ j, j ≠ 31 → j ≠ 33 → mm_upF (mm_up (mm_upF M 31 0 (.int 0)) 33 (mm_aI 15 (gk_f q.1 q.2))) 31 21 (.int 0) j = M j := fun j j1 j2 => by rw [mm_upF_n j1, mm_up_n j2, mm_upF_n j1]
    refine bX10_restore_41 (mm.i 21 (by decide)) ⟨rfl, ⟨_, h.act (mm.set 21 0 (by decide)) ?_ ?_ ((mm_at.s z3.1).nF (by decide)) s2 pk_us (h6.eq (e 36 (by decide) (by decide))) ⟨by decide, fun j q h => by simp at h⟩ (e 32 (by decide) (by decide)) (e 35 (by decide) (by decide)) (e 43 (by decide) (by decide)) (h8.eq fun j _ _ _ _ _ => e j (by omega) (by omega))⟩, fun j hj => e j (by omega) (by omega)⟩
    · rw [pk_un (by decide), pk_un (by decide)]; exact m3
    · rw [pk_un (by decide), pk_un (by decide)]; exact m4
  · rw [o_restore_0 hk c1]
    exact ⟨rfl, ⟨_, hz⟩, fM_z⟩
