/-! THE MODEL'S DRAWS -/
theorem MT.upI {M : mm_Mem} {th : Int32} {σ : g_st} (h : MT M th σ) (k : Nat) (x : Int32) (hk : k ∈ mo_ints) (h0 : k ≠ 0) (h2 : k ≠ 2) (h7 : k ≠ 7) (h21 : k ≠ 21) : MT (mm_upF M 31 k (.int x)) th σ := by
  obtain ⟨n, T, L, K, t, f, fk⟩ := σ
  obtain ⟨⟨F, w, m1, m2, m3, m4, m5⟩, h3, h4, ⟨h5, h5'⟩, ⟨C, h6, h6'⟩, h7', h8⟩ := h
  exact ⟨⟨_, w, m1.set k x hk, by rw [pk_un (Ne.symm h0)]; exact m2, by rw [pk_un (Ne.symm h2)]; exact m3, by rw [pk_un (Ne.symm h7)]; exact m4, by rw [pk_un (Ne.symm h21)]; exact m5⟩, h3.nF (by decide), h4, ⟨h5.nF (by decide), h5'⟩, ⟨C, h6.nF (by decide), h6'⟩, h7'.eq (mm_upF_n (by decide)) (mm_upF_n (by decide)), h8.eq fun j _ _ _ _ _ => mm_upF_n (by omega)⟩
/-- one of the model's spare nets is another -/
theorem MT.rnet {M : mm_Mem} {th : Int32} {σ : g_st} (h : MT M th σ) {a n' : Nat} {T' : Nat → Nat} (ha : a ∈ mk_nets) (hw : gw n' T') : MT (mm_up M a (mm_aI 15 (gk_f n' T'))) th σ := by
  obtain ⟨n, T, L, K, t, f, fk⟩ := σ
  have hin := mk_nets_in a ha
  have h43 : a ≠ 43 := by omega
  obtain ⟨⟨F, w, m1, m2⟩, h3, h4, ⟨h5, h5'⟩, ⟨C, h6, h6'⟩, h7, h8⟩ := h
  refine ⟨⟨F, w, m1.up (by omega), m2⟩, h3.n (by omega), h4, ⟨h5.n (by omega), h5'⟩, ⟨C, h6.n (by omega), h6'⟩, h7.eq (mm_up_n (by omega)) (mm_up_n (by omega)), h8.up (fun q hq => Or.inl (mm_up_n (by have := mk_scr_in q hq; omega))) (fun b hb => ?_) (Or.inl (mm_up_n (by omega)))⟩
  by_cases e : b = a
  · subst e
    exact Or.inr ⟨n', T', ⟨Nat.lt_of_le_of_lt hin.2.1 (by decide), mm_up_s⟩, hw⟩
  · exact Or.inl (mm_up_n e)
theorem MT.fdr {M : mm_Mem} {th : Int32} {σ : g_st} (h : MT M th σ) (k a : Nat) (hk : (k, a) ∈ mo_refs) : mm_fd M 31 10 k (.ref a) := by
  obtain ⟨n, T, L, K, t, f, fk⟩ := σ
  obtain ⟨F, w, m1, -⟩ := h.mo
  exact m1.r k a hk
def mD (M : mm_Mem) (th : Int32) (L : g_nets) (K : g_kept) (t : Nat) (f : Nat → Int32) (fk : Int32) (σ : g_dst) : Prop := MT M th (σ.1, σ.2.1, L, K, t, f, fk) ∧ mm_fd M 31 10 38 (.int σ.2.2)
theorem s_drawM {M : mm_Mem} {th : Int32} {L : g_nets} {K : g_kept} {t : Nat} {f : Nat → Int32} {fk s : Int32} {n k : Nat} {T : Nat → Nat} (h : mD M th L K t f fk (n, T, s)) (h0 : 0 < k) (hk : k < 2 ^ 31) : mm_S 0 mX10_draw 0 0 [.ref 31, .int (nI k)] M (fun r M' => r = some (.int (g_dv (g_dr s) (nI k))) ∧ mD M' th L K t f fk (n, T, g_dr s) ∧ ∀ j, j ≠ 31 → M' j = M j) :=
  mm_S.of rfl rfl (Nat.le_of_ble_eq_true rfl) (fun r M' h x e => by rw [h.1] at e; cases e) (bX10_draw_0 h.2 (nI_ne0 h0 hk) (by rw [g_dr_eq]; exact ⟨rfl, ⟨h.1.upI 38 _ (by decide) (by decide) (by decide) (by decide) (by decide), h.2.s⟩, fun j hj => mm_upF_n hj⟩))
def pM (M : mm_Mem) (th : Int32) (L : g_nets) (K : g_kept) (t : Nat) (f : Nat → Int32) (fk : Int32) (o : Bool × g_dst) (r : Option Value) (M' : mm_Mem) : Prop := r = some (.int (ks_o o.1)) ∧ mD M' th L K t f fk o.2 ∧ ∀ j, j ≠ 31 → j ≠ 33 → M' j = M j
theorem pM_nd {M : mm_Mem} {th : Int32} {L : g_nets} {K : g_kept} {t : Nat} {f : Nat → Int32} {fk : Int32} {o : Bool × g_dst} : ∀ r M', pM M th L K t f fk o r M' → ∀ x, r ≠ some (.double x) := fun r M' h x e => by rw [h.1] at e; cases e
theorem s_drawsOne {M : mm_Mem} {th : Int32} {L : g_nets} {K : g_kept} {t : Nat} {f : Nat → Int32} {fk : Int32} {σ : g_dst} (h : mD M th L K t f fk σ) : mm_S 2 mX10_drawsOne 0 0 [.ref 31] M (pM M th L K t f fk (g_deed σ)) := by
  obtain ⟨n, T, s⟩ := σ
  have hw : gw n T := h.1.now.2
  have hn := hw.1
  refine mm_S.of rfl rfl (Nat.le_of_ble_eq_true rfl) pM_nd (bX10_drawsOne_0 (h.1.fdr 10 33 (by decide)).rc ?_)
  rw [show (6 : Int32) = nI 6 from rfl]
  refine mm_Call.of (s_drawM h (k := 6) (by decide) (by decide)) (by decide) ?_
  rintro _ M1 ⟨rfl, k1, k2⟩
  dsimp only [g_deed]
  rw [show (6 : Int32) = nI 6 from rfl]
  have o1 : ra M1 33 n T := k1.1.now.1
  refine bX10_drawsOne_6 o1 (k1.1.fdr 10 33 (by decide)) (fun _ _ => gk_in0) (fun _ _ _ => gk_in0) (fun c c1 c2 => ?_) (fun c c1 c2 => ?_) (fun _ _ => gk_in0) (fun c c1 c2 => ?_) (fun c c1 c2 => ?_) (fun _ => gk_in0) (fun _ _ => gk_in0) (fun c c1 => ?_) (fun c c1 => ?_)
  · rw [gk_0, show (2 : Int32) = nI 2 from rfl, ks_le (by decide) (by omega)] at c2
    rw [if_neg c, if_neg c1, gk_0]
    refine mm_Call.of (s_drawM k1 (k := n) (by omega) (by omega)) (by decide) ?_
    rintro _ M2 ⟨rfl, k3, k4⟩
    obtain ⟨a, ha, e1⟩ := g_dv_lt (s := g_dr (g_dr s)) (k := n) (by omega) (by omega)
    have o2 : ra M2 33 n T := k3.1.now.1
    refine bX10_drawsOne_125 o2 (k3.1.fdr 10 33 (by decide)) gk_in0 ?_
    rw [gk_0, nI_sub1 (by omega)]
    refine mm_Call.of (s_drawM k3 (k := n - 1) (by omega) (by omega)) (by decide) ?_
    rintro _ M3 ⟨rfl, k5, k6⟩
    obtain ⟨b, hb, e2⟩ := g_dv_lt (s := g_dr (g_dr (g_dr s))) (k := n - 1) (by omega) (by omega)
    have o3 : ra M3 33 n T := k5.1.now.1
    dsimp only [g_dflip]
    rw [if_neg (by omega), e1, e2, nI_clamp (by omega), nI_clamp (by omega)]
    have fin : ∀ q, q < n → a ≠ q → (if b < a then b else b + 1) = q → mm_X mX10_drawsOne 2 none (0, 0) 156 [.null, .null, .null, .null] [.int (nI q), .int (nI a), .ref 33] M3 (pM M th L K t f fk (true, n, g_flip T a (if b < a then b else b + 1), g_dr (g_dr (g_dr s)))) := by
      intro q hq haq e
      refine bX10_drawsOne_156 o3 (by decide) (gk_in1 (by omega)) (gk_in1 (by omega)) (gk_in1 (by omega)) (gk_in1 (by omega)) ?_
      rw [gk_turns (by omega) (by omega) haq, e]
      exact ⟨rfl, ⟨k5.1.net (gw_flip hw ha hq haq), k5.2.o (by decide)⟩, fun j j1 j2 => (mm_up_n j2).trans ((k6 j j1).trans ((k4 j j1).trans (k2 j j1)))⟩
    refine bX10_drawsOne_138 (k5.1.fdr 10 33 (by decide)) (fun c3 => ?_) (fun c3 => ?_)
    · rw [ks_le (by omega) (by omega)] at c3
      rw [nI_1]
      exact fin (b + 1) (by omega) (by omega) (if_neg (by omega))
    · rw [ks_le (by omega) (by omega)] at c3
      exact fin b (by omega) (by omega) (if_pos (by omega))
  · rw [gk_0, show (2 : Int32) = nI 2 from rfl, ks_le (by decide) (by omega)] at c2
    rw [if_neg c, if_neg c1]
    dsimp only [g_dflip]
    rw [if_pos (by omega)]
    exact ⟨rfl, k1, fun j j1 _ => k2 j j1⟩
  · rw [gk_0, ks_14, ks_eqI (by omega) (by decide)] at c2
    rw [if_neg c, if_pos c1]
    dsimp only [g_dcome]
    rw [if_neg (by omega), show (0 : Int32) = nI 0 from rfl]
    refine fld (s := 0) (n := n) (G := fun p (q : Nat × mm_Mem) => mm_X mX10_drawsOne 2 none (0, 0) 63 [.ref 31, .null, .int (nI q.1), .int (nI p)] [] q.2 _) (v0 := (0, M1)) (I := fun p q => q.1 = (g_dcs (g_dr s) p).1 ∧ mD q.2 th L K t f fk (n, T, (g_dcs (g_dr s) p).2) ∧ ∀ j, j ≠ 31 → q.2 j = M j) (Nat.zero_le n) ⟨rfl, k1, k2⟩ ?_
    rintro p ⟨S, M2⟩ _ hp ⟨b1, b2, b3⟩ ih
    dsimp only at b1 b2 b3
    have o2 : ra M2 33 n T := b2.1.now.1
    have lS := g_dcs_lt (s := g_dr s) p
    rw [← b1] at lS
    refine bX10_drawsOne_63 o2 (b2.1.fdr 10 33 (by decide)) gk_in0 (fun c3 => ?_) (fun c3 => ?_)
    · rw [gk_0, ks_le (by omega) (by omega)] at c3
      obtain rfl : p = n := by omega
      refine mm_Call.eq (s_comes o2 hw (by omega) lS) (by decide) (bX10_drawsOne_101 ?_)
      rw [← b1]
      exact ⟨rfl, ⟨b2.1.net (gw_add hw (by omega) lS), b2.2.o (by decide)⟩, fun j j1 j2 => (mm_up_n j2).trans (b3 j j1)⟩
    · rw [gk_0, ks_le (by omega) (by omega)] at c3
      rw [show (3 : Int32) = nI 3 from rfl]
      refine mm_Call.of (s_drawM b2 (k := 3) (by decide) (by decide)) (by decide) ?_
      rintro _ M3 ⟨rfl, k3, k4⟩
      refine bX10_drawsOne_78 (fun c4 => ?_) (fun c4 => ?_)
      · refine bX10_drawsOne_87 ?_
        rw [nI_1]
        refine ih (S, M3) (by omega) ⟨?_, k3, fun j hj => (k4 j hj).trans (b3 j hj)⟩
        show S = if g_dv (g_dr (g_dcs (g_dr s) p).2) 3 = 0 then (g_dcs (g_dr s) p).1 ||| 2 ^ p else (g_dcs (g_dr s) p).1
        rw [if_neg (show ¬ g_dv (g_dr (g_dcs (g_dr s) p).2) 3 = 0 from c4), b1]
      · refine bX10_drawsOne_87 ?_
        rw [nI_1, ks_shl1 _ (by omega), nx_or]
        refine ih (S ||| 2 ^ p, M3) (by omega) ⟨?_, k3, fun j hj => (k4 j hj).trans (b3 j hj)⟩
        show S ||| 2 ^ p = if g_dv (g_dr (g_dcs (g_dr s) p).2) 3 = 0 then (g_dcs (g_dr s) p).1 ||| 2 ^ p else (g_dcs (g_dr s) p).1
        rw [if_pos (show g_dv (g_dr (g_dcs (g_dr s) p).2) 3 = 0 from c4), b1]
  · rw [gk_0, ks_14, ks_eqI (by omega) (by decide)] at c2
    rw [if_neg c, if_pos c1]
    dsimp only [g_dcome]
    rw [if_pos (by omega)]
    exact ⟨rfl, k1, fun j j1 _ => k2 j j1⟩
  · rw [gk_0, ks_eq0 (by omega)] at c1
    obtain ⟨m, rfl⟩ : ∃ m, n = m + 1 := ⟨n - 1, by omega⟩
    rw [if_pos c, gk_0]
    refine mm_Call.of (s_drawM k1 (k := m + 1) (by omega) (by omega)) (by decide) ?_
    rintro _ M2 ⟨rfl, k3, k4⟩
    obtain ⟨p, hp, e⟩ := g_dv_lt (s := g_dr (g_dr s)) (k := m + 1) (by omega) (by omega)
    dsimp only [g_dgo]
    rw [if_neg c1, e, nI_clamp (by omega)]
    have o2 : ra M2 33 (m + 1) T := k3.1.now.1
    refine bX10_drawsOne_36 (mm_Call.eq (s_goes o2 hw (by omega)) (by decide) (bX10_drawsOne_39 ⟨rfl, ⟨k3.1.net (gw_drop (n := m) (p := p) hw (by omega)), k3.2.o (by decide)⟩, fun j j1 j2 => (mm_up_n j2).trans ((k4 j j1).trans (k2 j j1))⟩))
  · rw [gk_0, ks_eq0 (by omega)] at c1
    rw [if_pos c]
    dsimp only [g_dgo]
    rw [if_pos c1]
    exact ⟨rfl, k1, fun j j1 _ => k2 j j1⟩
theorem s_stay {M : mm_Mem} {th : Int32} {L : g_nets} {K : g_kept} {t : Nat} {f : Nat → Int32} {fk : Int32} {n n' : Nat} {T T' : Nat → Nat} (h : MT M th (n', T', L, K, t, f, fk)) (hb : ra M 37 n T) (hw : gw n T) : mm_S 2 mX10_stay 0 0 [.ref 31] M (fun r M' => r = none ∧ MT M' th (n', T', g_kp L (n, T), K, t, f, fk) ∧ fM M M') := by
  obtain ⟨n8, T8, a1, a2⟩ := h.rn 38 (by decide)
  obtain ⟨o, hw'⟩ := h.now
  refine mm_S.of rfl rfl (Nat.le_of_ble_eq_true rfl) (fun r M' h x e => by rw [h.1] at e; cases e) (bX10_stay_0 (h.fdr 10 33 (by decide)) (h.fdr 15 38 (by decide)) ?_)
  rw [show (0 : Int32) = nI 0 from rfl]
  refine mm_Call.eq (s_copyM (s := 0) (t := 0) o a1 (by decide) gk_at0 (by decide) (by decide) (by decide) (by decide)) (by decide) ?_
  rw [sl_row a2 hw']
  have h1 := h.rnet (a := 38) (by decide) hw'
  have b38 : ra (mm_up M 38 (mm_aI 15 (gk_f n' T'))) 38 n' T' := mm_at.s a1.1
  have b37 : ra (mm_up M 38 (mm_aI 15 (gk_f n' T'))) 37 n T := hb.n (by decide)
  have e1 : fM M (mm_up M 38 (mm_aI 15 (gk_f n' T'))) := fun j hj => mm_up_n (by omega)
  generalize mm_up M 38 (mm_aI 15 (gk_f n' T')) = M1 at h1 b38 b37 e1 ⊢
  obtain ⟨o1, -⟩ := h1.now
  refine bX10_stay_13 (h1.fdr 14 37 (by decide)) (h1.fdr 10 33 (by decide)) ?_
  rw [show (0 : Int32) = nI 0 from rfl]
  refine mm_Call.eq (s_copyM (s := 0) (t := 0) b37 o1 (by decide) gk_at0 (by decide) (by decide) (by decide) (by decide)) (by decide) ?_
  rw [sl_row hw' hw]
  have h2 := h1.net hw
  have c38 := b38.n (a := 33) (c' := mm_aI 15 (gk_f n T)) (by decide)
  have e2 : fM M (mm_up M1 33 (mm_aI 15 (gk_f n T))) := fun j hj => (mm_up_n (by omega)).trans (e1 j hj)
  generalize mm_up M1 33 (mm_aI 15 (gk_f n T)) = M2 at h2 c38 e2 ⊢
  refine bX10_stay_26 (h2.fdr 10 33 (by decide)).rc (mm_Call.of (s_snap' h2) (by decide) ?_)
  rintro _ M3 ⟨rfl, k1, k2⟩
  have d38 : ra M3 38 n' T' := mm_at.eq c38 (k2 38 (by decide) (by decide))
  obtain ⟨o3, -⟩ := k1.now
  refine bX10_stay_30 (k1.fdr 15 38 (by decide)) (k1.fdr 10 33 (by decide)) ?_
  rw [show (0 : Int32) = nI 0 from rfl]
  refine mm_Call.eq (s_copyM (s := 0) (t := 0) d38 o3 (by decide) gk_at0 (by decide) (by decide) (by decide) (by decide)) (by decide) ?_
  rw [sl_row hw hw']
  exact bX10_stay_43 ⟨rfl, k1.net hw', fun j hj => (mm_up_n (by omega)).trans ((k2 j (by omega) (by omega)).trans (e2 j hj))⟩
theorem q_isIn60 (x : Int32) : qX10_isIn x 1 60 = ks_b (∃ k, 1 ≤ k ∧ k ≤ 60 ∧ x = nI k) := by
  rw [ks_bc (ks_160 x)]
  unfold qX10_isIn
  by_cases h1 : x < 1
  · rw [if_pos h1, ks_bf fun q => q.1 h1]
  · rw [if_neg h1]
    by_cases h2 : (60 : Int32) < x
    · rw [if_pos h2, ks_bf fun q => Int32.not_le.mpr h2 q.2]
    · rw [if_neg h2, ks_bt ⟨h1, Int32.not_lt.mp h2⟩]
theorem oM_drawn {M : mm_Mem} {σ : g_st} {x s : Int32} (h : MS M σ) : OM 3 mX10_drawn [.int x, .int s] M (o_drawn σ x s) := by
  obtain ⟨n, T, L, K, t, f, fk⟩ := σ
  obtain ⟨th, h⟩ := h
  obtain ⟨F, w, m1, m2⟩ := h.mo
  obtain ⟨o, hw⟩ := h.now
  have hz := h.z
  refine mm_S.of rfl rfl (Nat.le_of_ble_eq_true rfl) ndM (bX10_drawn_0 (m1.i 0 (by decide)) (m1.r 10 33 (by decide)) (m1.r 14 37 (by decide)) (by decide) (fun c => ?_) (fun c => ?_))
  · rw [q_isIn60, ks_b0, Classical.not_not] at c
    obtain ⟨k, q1, q2, rfl⟩ := c
    rw [o_drawn_y q1 q2]
    obtain ⟨n7, T7, a1, a2⟩ := hz.rn 37 (by decide)
    obtain ⟨oz, -⟩ := hz.now
    rw [show mm_Call 3 mX10_copy [.ref 33, .int 0, .ref 37, .int 0] = mm_Call 3 mX10_copy [.ref 33, .int (nI 0), .ref 37, .int (nI 0)] from rfl]
    refine mm_Call.eq (s_copyM (s := 0) (t := 0) oz a1 (by decide) gk_at0 (by decide) (by decide) (by decide) (by decide)) (by decide) ?_
    rw [sl_row a2 hw]
    have h1 := hz.rnet (a := 37) (by decide) hw
    have b37 : ra (mm_up (mm_upF M 31 0 (.int 0)) 37 (mm_aI 15 (gk_f n T))) 37 n T := mm_at.s a1.1
    have e1 : fM M (mm_up (mm_upF M 31 0 (.int 0)) 37 (mm_aI 15 (gk_f n T))) := fun j hj => (mm_up_n (by omega)).trans (mm_upF_n (by omega))
    generalize mm_up (mm_upF M 31 0 (.int 0)) 37 (mm_aI 15 (gk_f n T)) = M1 at h1 b37 e1 ⊢
    obtain ⟨F1, w1, n1, -⟩ := h1.mo
    refine bX10_drawn_30 (n1.i 38 (by decide)) ?_
    have h2 := h1.upI 38 s (by decide) (by decide) (by decide) (by decide) (by decide)
    have s38 : mm_fd (mm_upF M1 31 38 (.int s)) 31 10 38 (.int s) := (n1.i 38 (by decide)).s
    have c37 := b37.nF (a := 31) (k := 38) (v := .int s) (by decide)
    have e2 : fM M (mm_upF M1 31 38 (.int s)) := fun j hj => (mm_upF_n (by omega)).trans (e1 j hj)
    generalize mm_upF M1 31 38 (.int s) = M2 at h2 s38 c37 e2 ⊢
    rw [show (0 : Int32) = nI 0 from rfl]
    refine fld (s := 0) (n := k) (G := fun i (q : Nat × mm_Mem) => mm_X mX10_drawn 3 none (0, 0) 40 [.ref 31, .int (nI k), .null, .int (nI q.1), .int (nI i)] [] q.2 _) (v0 := (0, M2)) (I := fun i q => q.1 = (g_deeds (n, T, s) i).1 ∧ mD q.2 0 L K t f fk (g_deeds (n, T, s) i).2 ∧ ∀ j, j ≠ 31 → j ≠ 33 → q.2 j = M2 j) (Nat.zero_le k) ⟨rfl, ⟨h2, s38⟩, fun _ _ _ => rfl⟩ ?_
    rintro i ⟨v, M3⟩ _ hi ⟨d1, d2, d3⟩ ih
    dsimp only at d1 d2 d3
    have lv := g_deeds_le (σ := (n, T, s)) i
    rw [← d1] at lv
    have hM3 : fM M M3 := fun j hj => (d3 j (by omega) (by omega)).trans (e2 j hj)
    refine bX10_drawn_40 (d2.1.fdr 10 33 (by decide)).rc (fun c2 c3 => ?_) (fun c2 c3 => ?_) (fun c2 => ?_)
    · rw [ks_le (by omega) (by omega)] at c2
      obtain rfl : i = k := by omega
      rw [show (0 : Int32) = nI 0 from rfl, ks_le (by omega) (by decide)] at c3
      rw [← d1, if_neg (by omega)]
      exact bX10_drawn_70 ⟨rfl, ⟨_, d2.1⟩, hM3⟩
    · rw [ks_le (by omega) (by omega)] at c2
      obtain rfl : i = k := by omega
      rw [show (0 : Int32) = nI 0 from rfl, ks_le (by omega) (by decide)] at c3
      rw [← d1, if_pos (by omega)]
      refine mm_Call.of (s_stay d2.1 (mm_at.eq c37 (d3 37 (by decide) (by decide))) hw) (by decide) ?_
      rintro _ M4 ⟨rfl, k1, k2⟩
      exact bX10_drawn_70 ⟨rfl, ⟨_, k1⟩, fun j hj => (k2 j hj).trans (hM3 j hj)⟩
    · rw [ks_le (by omega) (by omega)] at c2
      refine mm_Call.of (s_drawsOne d2) (by decide) ?_
      rintro _ M4 ⟨rfl, k1, k2⟩
      refine bX10_drawn_50 (fun c3 => ?_) (fun c3 => ?_)
      · rw [nI_1]
        refine ih (v, M4) (by omega) ⟨?_, by rw [g_deeds_s]; exact k1, fun j j1 j2 => (k2 j j1 j2).trans (d3 j j1 j2)⟩
        rw [g_deeds_s]
        show v = if (g_deed (g_deeds (n, T, s) i).2).1 = true then (g_deeds (n, T, s) i).1 + 1 else (g_deeds (n, T, s) i).1
        rw [if_neg, d1]
        intro q
        rw [q] at c3
        exact absurd c3 (by decide)
      · rw [nI_1, nI_1]
        refine ih (v + 1, M4) (by omega) ⟨?_, by rw [g_deeds_s]; exact k1, fun j j1 j2 => (k2 j j1 j2).trans (d3 j j1 j2)⟩
        rw [g_deeds_s]
        show v + 1 = if (g_deed (g_deeds (n, T, s) i).2).1 = true then (g_deeds (n, T, s) i).1 + 1 else (g_deeds (n, T, s) i).1
        rw [if_pos, d1]
        cases q : (g_deed (g_deeds (n, T, s) i).2).1 with
        | true => rfl
        | false =>
          rw [q] at c3
          exact absurd rfl c3
  · rw [q_isIn60, ks_b0] at c
    rw [o_drawn_n c]
    exact ⟨rfl, ⟨_, hz⟩, fM_z⟩
