/-! CALLS OF BOTH SIDES: deeds by draws -/
theorem g_dr_ex : ∃ f : Int32 → Int32, ∀ s, f s = s * 1103515245 + 12345 := ⟨fun s => s * 1103515245 + 12345, fun _ => rfl⟩
/-- the seed's next: opaque, so that nothing computes with it -/
noncomputable def g_dr : Int32 → Int32 := Classical.choose g_dr_ex
theorem g_dr_eq (s : Int32) : s * 1103515245 + 12345 = g_dr s := (Classical.choose_spec g_dr_ex s).symm
def g_dv (s k : Int32) : Int32 := mm_rem (mm_ushr s 8) k
theorem ks_of (x : Int32) : x = nI x.toBitVec.toNat := by
  apply Int32.toBitVec_inj.1
  apply BitVec.eq_of_toNat_eq
  rw [pk_tn x.toBitVec.isLt]
theorem g_dv_lt {s : Int32} {k : Nat} (h0 : 0 < k) (hk : k < 2 ^ 31) : ∃ r, r < k ∧ g_dv s (nI k) = nI r := by
  have h : mm_ushr s 8 = nI (s.toBitVec.toNat / 2 ^ 8) := by
    rw [ks_of (mm_ushr s 8)]
    congr 1
    exact pk_ushr s 8 8 (ks_ushr32 8 (by decide))
  have hs := s.toBitVec.isLt
  unfold g_dv
  rw [h]
  exact ⟨_, Nat.mod_lt _ h0, pk_rem (by omega) h0 hk⟩
abbrev g_dst : Type := Nat × (Nat → Nat) × Int32
noncomputable def g_dgo : g_dst → Bool × g_dst
  | (n, T, s) => if n = 0 then (false, n, T, s) else (true, n - 1, g_drop (n - 1) T (g_dv (g_dr s) (nI n)).toNatClampNeg, g_dr s)
noncomputable def g_dcs (s : Int32) : Nat → Nat × Int32
  | 0 => (0, s)
  | p + 1 => (if g_dv (g_dr (g_dcs s p).2) 3 = 0 then (g_dcs s p).1 ||| 2 ^ p else (g_dcs s p).1, g_dr (g_dcs s p).2)
theorem g_dcs_lt {s : Int32} : ∀ p, (g_dcs s p).1 < 2 ^ p
  | 0 => (by decide : 0 < 2 ^ 0)
  | p + 1 => by
    have := g_dcs_lt (s := s) p
    have h2 : (g_dcs s p).1 < 2 ^ (p + 1) := Nat.lt_trans this (ks_p2_lt (Nat.lt_succ_self p))
    show (if _ then _ else _) < _
    split
    · exact ks_or_lt h2 (ks_p2_lt (Nat.lt_succ_self p))
    · exact h2
noncomputable def g_dcome : g_dst → Bool × g_dst
  | (n, T, s) => if 14 ≤ n then (false, n, T, s) else (true, n + 1, g_add n T (g_dcs s n).1, (g_dcs s n).2)
noncomputable def g_dflip : g_dst → Bool × g_dst
  | (n, T, s) => if n < 2 then (false, n, T, s) else (true, n, g_flip T (g_dv (g_dr s) (nI n)).toNatClampNeg (if (g_dv (g_dr (g_dr s)) (nI (n - 1))).toNatClampNeg < (g_dv (g_dr s) (nI n)).toNatClampNeg then (g_dv (g_dr (g_dr s)) (nI (n - 1))).toNatClampNeg else (g_dv (g_dr (g_dr s)) (nI (n - 1))).toNatClampNeg + 1), g_dr (g_dr s))
noncomputable def g_deed : g_dst → Bool × g_dst
  | (n, T, s) => if g_dv (g_dr s) 6 = 0 then g_dgo (n, T, g_dr s) else if g_dv (g_dr s) 6 = 1 then g_dcome (n, T, g_dr s) else g_dflip (n, T, g_dr s)
/-- the class's object, its net and its seed -/
def dC (M : mm_Mem) (pf fk : Int32) (σ : g_dst) : Prop := co M pf fk σ.2.2 ∧ na M 1 σ.1 σ.2.1 ∧ gw σ.1 σ.2.1
theorem s_drawC {M : mm_Mem} {pf fk s : Int32} {k : Nat} (h : co M pf fk s) (h0 : 0 < k) (hk : k < 2 ^ 31) : mm_S 0 mX9_draw 0 0 [.ref 0, .int (nI k)] M (fun r M' => r = some (.int (g_dv (g_dr s) (nI k))) ∧ co M' pf fk (g_dr s) ∧ ∀ j, j ≠ 0 → M' j = M j) :=
  mm_S.of rfl rfl (Nat.le_of_ble_eq_true rfl) (fun r M' h x e => by rw [h.1] at e; cases e) (bX9_draw_0 h.2.2.2 (fun c => absurd c (nI_nle h0 hk)) (fun _ => nI_ne0 h0 hk) (fun _ => by rw [g_dr_eq]; exact ⟨rfl, h.sets _, fun j hj => mm_upF_n hj⟩))
def pD (M : mm_Mem) (pf fk : Int32) (o : Bool × g_dst) (r : Option Value) (M' : mm_Mem) : Prop := r = some (.int (ks_o o.1)) ∧ dC M' pf fk o.2 ∧ ∀ j, 3 ≤ j → M' j = M j
theorem pD_nd {M : mm_Mem} {pf fk : Int32} {o : Bool × g_dst} : ∀ r M', pD M pf fk o r M' → ∀ x, r ≠ some (.double x) := fun r M' h x e => by rw [h.1] at e; cases e
theorem s_didGo {M : mm_Mem} {pf fk : Int32} {σ : g_dst} (h : dC M pf fk σ) : mm_S 3 mX9_didGo 0 0 [.ref 0] M (pD M pf fk (g_dgo σ)) := by
  obtain ⟨n, T, s⟩ := σ
  obtain ⟨h1, h2, h3⟩ := id h
  dsimp only at h1 h2 h3
  have hn := h3.1
  refine mm_S.of rfl rfl (Nat.le_of_ble_eq_true rfl) pD_nd (bX9_didGo_0 h2.1 (h1.r 0 1 (by decide)) (by decide) (fun c => ?_) (fun c => ?_))
  · rw [ks_eq0 (by omega)] at c
    obtain ⟨m, rfl⟩ : ∃ m, n = m + 1 := ⟨n - 1, by omega⟩
    refine mm_Call.of (s_drawC h1 (k := m + 1) (by omega) (by omega)) (by decide) ?_
    rintro _ M1 ⟨rfl, k1, k2⟩
    obtain ⟨p, hp, e⟩ := g_dv_lt (s := g_dr s) (k := m + 1) (by omega) (by omega)
    dsimp only [g_dgo]
    rw [if_neg c, e, nI_clamp (by omega)]
    have a1 := h2.eq (k2 1 (by decide)) (k2 2 (by decide))
    refine bX9_didGo_27 a1.1 (mm_Call.eq (s_drop a1 h3 (by omega)) (by decide) (bX9_didGo_30 ⟨rfl, ⟨k1.eq (mm_net_n (by decide) (by decide)), mm_net_na (by decide), gw_drop (n := m) (p := p) h3 (by omega)⟩, fun j hj => by rw [mm_net_n (by omega) (by omega), k2 j (by omega)]⟩))
  · rw [ks_eq0 (by omega)] at c
    dsimp only [g_dgo]
    rw [if_pos c]
    exact ⟨rfl, h, fun _ _ => rfl⟩
theorem s_didCome {M : mm_Mem} {pf fk : Int32} {σ : g_dst} (h : dC M pf fk σ) : mm_S 3 mX9_didCome 0 0 [.ref 0] M (pD M pf fk (g_dcome σ)) := by
  obtain ⟨n, T, s⟩ := σ
  obtain ⟨h1, h2, h3⟩ := id h
  dsimp only at h1 h2 h3
  have hn := h3.1
  refine mm_S.of rfl rfl (Nat.le_of_ble_eq_true rfl) pD_nd (bX9_didCome_0 h2.1 (h1.r 0 1 (by decide)) (by decide) (fun c => ?_) (fun c => ?_))
  · rw [ks_14, ks_ltI (by omega) (by decide)] at c
    dsimp only [g_dcome]
    rw [if_neg (by omega), show (0 : Int32) = nI 0 from rfl]
    refine fld (s := 0) (n := n) (G := fun p (q : Nat × mm_Mem) => mm_X mX9_didCome 3 none (0, 0) 18 [.ref 0, .int (nI q.1), .int (nI p)] [] q.2 _) (v0 := (0, M)) (I := fun p q => q.1 = (g_dcs s p).1 ∧ co q.2 pf fk (g_dcs s p).2 ∧ ∀ j, j ≠ 0 → q.2 j = M j) (Nat.zero_le n) ⟨rfl, h1, fun _ _ => rfl⟩ ?_
    rintro p ⟨S, M1⟩ _ hp ⟨b1, b2, b3⟩ ih
    dsimp only at b1 b2 b3
    have a1 := h2.eq (b3 1 (by decide)) (b3 2 (by decide))
    have lS := g_dcs_lt (s := s) p
    rw [← b1] at lS
    refine bX9_didCome_18 a1.1 (b2.r 0 1 (by decide)) (by decide) (fun c1 => ?_) (fun c1 => ?_)
    · rw [ks_le (by omega) (by omega)] at c1
      obtain rfl : p = n := by omega
      refine mm_Call.eq (s_add a1 h3 c lS) (by decide) (bX9_didCome_57 ?_)
      rw [← b1]
      exact ⟨rfl, ⟨b2.eq (mm_net_n (by decide) (by decide)), mm_net_na (by decide), gw_add h3 c lS⟩, fun j hj => (mm_net_n (by omega) (by omega)).trans (b3 j (by omega))⟩
    · rw [ks_le (by omega) (by omega)] at c1
      rw [show (3 : Int32) = nI 3 from rfl]
      refine mm_Call.of (s_drawC b2 (k := 3) (by decide) (by decide)) (by decide) ?_
      rintro _ M2 ⟨rfl, k1, k2⟩
      refine bX9_didCome_34 (fun c2 => ?_) (fun c2 => ?_)
      · rw [nI_1]
        refine ih (S, M2) (by omega) ⟨?_, k1, fun j hj => (k2 j hj).trans (b3 j hj)⟩
        show S = if g_dv (g_dr (g_dcs s p).2) 3 = 0 then (g_dcs s p).1 ||| 2 ^ p else (g_dcs s p).1
        rw [if_neg (show ¬ g_dv (g_dr (g_dcs s p).2) 3 = 0 from c2), b1]
      · rw [nI_1, ks_shl1 _ (by omega), nx_or]
        refine ih (S ||| 2 ^ p, M2) (by omega) ⟨?_, k1, fun j hj => (k2 j hj).trans (b3 j hj)⟩
        show S ||| 2 ^ p = if g_dv (g_dr (g_dcs s p).2) 3 = 0 then (g_dcs s p).1 ||| 2 ^ p else (g_dcs s p).1
        rw [if_pos (show g_dv (g_dr (g_dcs s p).2) 3 = 0 from c2), b1]
  · rw [ks_14, ks_ltI (by omega) (by decide)] at c
    dsimp only [g_dcome]
    rw [if_pos (by omega)]
    exact ⟨rfl, h, fun _ _ => rfl⟩
theorem s_didFlip {M : mm_Mem} {pf fk : Int32} {σ : g_dst} (h : dC M pf fk σ) : mm_S 3 mX9_didFlip 0 0 [.ref 0] M (pD M pf fk (g_dflip σ)) := by
  obtain ⟨n, T, s⟩ := σ
  obtain ⟨h1, h2, h3⟩ := id h
  dsimp only at h1 h2 h3
  have hn := h3.1
  refine mm_S.of rfl rfl (Nat.le_of_ble_eq_true rfl) pD_nd (bX9_didFlip_0 h2.1 (h1.r 0 1 (by decide)) (by decide) (fun c => ?_) (fun c => ?_))
  · rw [show (2 : Int32) = nI 2 from rfl, ks_le (by decide) (by omega)] at c
    refine mm_Call.of (s_drawC h1 (k := n) (by omega) (by omega)) (by decide) ?_
    rintro _ M1 ⟨rfl, k1, k2⟩
    obtain ⟨a, ha, e1⟩ := g_dv_lt (s := g_dr s) (k := n) (by omega) (by omega)
    have a1 := h2.eq (k2 1 (by decide)) (k2 2 (by decide))
    refine bX9_didFlip_24 a1.1 (k1.r 0 1 (by decide)) (by decide) ?_
    rw [nI_sub1 (by omega)]
    refine mm_Call.of (s_drawC k1 (k := n - 1) (by omega) (by omega)) (by decide) ?_
    rintro _ M2 ⟨rfl, k3, k4⟩
    obtain ⟨b, hb, e2⟩ := g_dv_lt (s := g_dr (g_dr s)) (k := n - 1) (by omega) (by omega)
    have a2 := a1.eq (k4 1 (by decide)) (k4 2 (by decide))
    dsimp only [g_dflip]
    rw [if_neg (by omega), e1, e2, nI_clamp (by omega), nI_clamp (by omega)]
    refine bX9_didFlip_38 a2.1 a2.2 (k3.r 0 1 (by decide)) (by decide) (by decide) (fun c1 => ?_) (fun c1 => ?_)
    · rw [ks_ltI (by omega) (by omega)] at c1
      rw [g_flip_f (by omega) (by omega) (by omega), if_pos c1]
      exact ⟨rfl, ⟨k3.eq (mm_up_n (by decide)), ⟨a2.1.n (by decide), mm_at.s a2.2.1⟩, gw_flip (n := n) (a := a) h3 ha (by omega) (by omega)⟩, fun j hj => (mm_up_n (by omega)).trans ((k4 j (by omega)).trans (k2 j (by omega)))⟩
    · rw [ks_ltI (by omega) (by omega)] at c1
      rw [nI_1, g_flip_f (by omega) (by omega) (by omega), if_neg c1]
      exact ⟨rfl, ⟨k3.eq (mm_up_n (by decide)), ⟨a2.1.n (by decide), mm_at.s a2.2.1⟩, gw_flip (n := n) (a := a) h3 ha (by omega) (by omega)⟩, fun j hj => (mm_up_n (by omega)).trans ((k4 j (by omega)).trans (k2 j (by omega)))⟩
  · rw [show (2 : Int32) = nI 2 from rfl, ks_le (by decide) (by omega)] at c
    dsimp only [g_dflip]
    rw [if_pos (by omega)]
    exact ⟨rfl, h, fun _ _ => rfl⟩
theorem ks_oz (b : Bool) : narrow .boolean (.int (ks_o b)) = .int (ks_o b) := by cases b <;> rfl
theorem s_didDeed {M : mm_Mem} {pf fk : Int32} {σ : g_dst} (h : dC M pf fk σ) : mm_S 4 mX9_didDeed 0 0 [.ref 0] M (pD M pf fk (g_deed σ)) := by
  obtain ⟨n, T, s⟩ := σ
  obtain ⟨h1, h2, h3⟩ := id h
  dsimp only at h1 h2 h3
  refine mm_S.of rfl rfl (Nat.le_of_ble_eq_true rfl) pD_nd (bX9_didDeed_0 (h1.r 0 1 (by decide)).rc ?_)
  rw [show (6 : Int32) = nI 6 from rfl]
  refine mm_Call.of (s_drawC h1 (k := 6) (by decide) (by decide)) (by decide) ?_
  rintro _ M1 ⟨rfl, k1, k2⟩
  have hd : dC M1 pf fk (n, T, g_dr s) := ⟨k1, h2.eq (k2 1 (by decide)) (k2 2 (by decide)), h3⟩
  dsimp only [g_deed]
  rw [show (6 : Int32) = nI 6 from rfl]
  refine bX9_didDeed_6 (k1.r 0 1 (by decide)).rc (fun c c1 => ?_) (fun c c1 => ?_) (fun c => ?_)
  · rw [if_neg c, if_neg c1]
    refine mm_Call.of (s_didFlip hd) (by decide) ?_
    rintro _ M2 ⟨rfl, k3, k4⟩
    exact bX9_didDeed_32 (ks_oz _) ⟨rfl, k3, fun j hj => (k4 j hj).trans (k2 j (by omega))⟩
  · rw [if_neg c, if_pos c1]
    refine mm_Call.of (s_didCome hd) (by decide) ?_
    rintro _ M2 ⟨rfl, k3, k4⟩
    exact bX9_didDeed_25 (bX9_didDeed_32 (ks_oz _) ⟨rfl, k3, fun j hj => (k4 j hj).trans (k2 j (by omega))⟩)
  · rw [if_pos c]
    refine mm_Call.of (s_didGo hd) (by decide) ?_
    rintro _ M2 ⟨rfl, k3, k4⟩
    exact bX9_didDeed_15 (ks_oz _) ⟨rfl, k3, fun j hj => (k4 j hj).trans (k2 j (by omega))⟩
noncomputable def g_deeds (σ : g_dst) : Nat → Nat × g_dst
  | 0 => (0, σ)
  | k + 1 => ((if (g_deed (g_deeds σ k).2).1 = true then (g_deeds σ k).1 + 1 else (g_deeds σ k).1), (g_deed (g_deeds σ k).2).2)
theorem g_deeds_s {σ : g_dst} {k : Nat} : g_deeds σ (k + 1) = ((if (g_deed (g_deeds σ k).2).1 = true then (g_deeds σ k).1 + 1 else (g_deeds σ k).1), (g_deed (g_deeds σ k).2).2) := rfl
theorem g_deeds_le {σ : g_dst} : ∀ k, (g_deeds σ k).1 ≤ k
  | 0 => Nat.le_refl 0
  | k + 1 => by
    have := g_deeds_le (σ := σ) k
    rw [g_deeds_s]
    dsimp only
    split <;> omega
noncomputable def o_drawn : g_st → Int32 → Int32 → Int32 × g_st
  | (n, T, L, K, t, f, fk), x, s => if 1 ≤ x.toNatClampNeg ∧ x.toNatClampNeg ≤ 60 ∧ x = nI x.toNatClampNeg then (nI (g_deeds (n, T, s) x.toNatClampNeg).1, ((g_deeds (n, T, s) x.toNatClampNeg).2.1, (g_deeds (n, T, s) x.toNatClampNeg).2.2.1, (if 0 < (g_deeds (n, T, s) x.toNatClampNeg).1 then g_kp L (n, T) else L), K, t, f, fk)) else (-1, (n, T, L, K, t, f, fk))
theorem ks_160 (x : Int32) : (∃ k, 1 ≤ k ∧ k ≤ 60 ∧ x = nI k) ↔ (¬ x < 1 ∧ x ≤ 60) := by
  constructor
  · rintro ⟨k, h1, h2, rfl⟩
    exact ⟨by rw [show (1 : Int32) = nI 1 from rfl, ks_ltI (by omega) (by decide)]; omega, by rw [show (60 : Int32) = nI 60 from rfl, ks_le (by omega) (by decide)]; exact h2⟩
  · rintro ⟨h1, h2⟩
    have h0 : ¬ x < 0 := fun q => h1 (Int32.lt_trans q (by decide))
    obtain ⟨j, h3, h4⟩ := nI_of2 (M := nI 60) (n := 60) (nI_toInt (by decide)) h0 h2
    refine ⟨j, ?_, h3, h4⟩
    rw [h4, show (1 : Int32) = nI 1 from rfl, ks_ltI (by omega) (by decide)] at h1
    omega
theorem o_drawn_n {n : Nat} {T : Nat → Nat} {L : g_nets} {K : g_kept} {t : Nat} {f : Nat → Int32} {fk x s : Int32} (h : ¬ ∃ k, 1 ≤ k ∧ k ≤ 60 ∧ x = nI k) : o_drawn (n, T, L, K, t, f, fk) x s = (-1, (n, T, L, K, t, f, fk)) := by
  dsimp only [o_drawn]
  rw [if_neg fun q => h ⟨_, q.1, q.2.1, q.2.2⟩]
theorem o_drawn_y {n k : Nat} {T : Nat → Nat} {L : g_nets} {K : g_kept} {t : Nat} {f : Nat → Int32} {fk s : Int32} (h1 : 1 ≤ k) (h2 : k ≤ 60) : o_drawn (n, T, L, K, t, f, fk) (nI k) s = (nI (g_deeds (n, T, s) k).1, ((g_deeds (n, T, s) k).2.1, (g_deeds (n, T, s) k).2.2.1, (if 0 < (g_deeds (n, T, s) k).1 then g_kp L (n, T) else L), K, t, f, fk)) := by
  dsimp only [o_drawn]
  rw [nI_clamp (by omega), if_pos ⟨h1, h2, rfl⟩]
theorem co_pf {M : mm_Mem} {pf fk sd pf' fk' sd' : Int32} (h : co M pf fk sd) (h' : co M pf' fk' sd') : pf = pf' := by
  obtain ⟨-, fs, p1, p2⟩ := h.2.1
  obtain ⟨-, fs', p3, p4⟩ := h'.2.1
  rw [p1] at p3
  cases p3
  rw [p2] at p4
  exact Value.int.inj (Option.some.inj p4)
theorem oC_drawn {M : mm_Mem} {σ : g_st} {x s : Int32} (h : CS M σ) : OC 5 mX9_drawn [.int x, .int s] M (o_drawn σ x s) := by
  obtain ⟨n, T, L, K, t, f, fk⟩ := σ
  obtain ⟨⟨pf, sd, h1, h2⟩, h3, h4, ⟨n3, T3, h5, h5'⟩, h6, h7, h8, h9, h10, h11⟩ := id h
  refine mm_S.of rfl rfl (Nat.le_of_ble_eq_true rfl) ndC (bX9_drawn_0 h5.1 h1.2.2.2 (h1.r 1 3 (by decide)) (h1.r 0 1 (by decide)) (by decide) (fun c => ?_) (fun c c1 => ?_) (fun c c1 => ?_))
  · rw [o_drawn_n fun q => ((ks_160 x).mp q).1 c]
    exact ⟨rfl, h, fun _ _ => rfl⟩
  · obtain ⟨k, q1, q2, rfl⟩ := (ks_160 x).mpr ⟨c, c1⟩
    rw [o_drawn_y q1 q2]
    have a0 := h1.sets s
    have a1 : na (mm_upF M 0 12 (.int s)) 1 n T := h3.eq (mm_upF_n (by decide)) (mm_upF_n (by decide))
    have a3 : na (mm_upF M 0 12 (.int s)) 3 n3 T3 := h5.eq (mm_upF_n (by decide)) (mm_upF_n (by decide))
    refine mm_Call.eq (s_copyN a3 a1 h5' h4 (by decide) (by decide) (by decide)) (by decide) (bX9_drawn_29 ?_)
    have e1 : ∀ j, j ≠ 0 → j ≠ 3 → j ≠ 4 → mm_net (mm_upF M 0 12 (.int s)) 3 n T j = M j := fun j j0 j1 j2 => by rw [mm_net_n j1 j2, mm_upF_n j0]
    have b0 : co (mm_net (mm_upF M 0 12 (.int s)) 3 n T) pf fk s := a0.eq (mm_net_n (by decide) (by decide))
    have b1 : na (mm_net (mm_upF M 0 12 (.int s)) 3 n T) 1 n T := a1.eq (mm_net_n (by decide) (by decide)) (mm_net_n (by decide) (by decide))
    have b3 : na (mm_net (mm_upF M 0 12 (.int s)) 3 n T) 3 n T := mm_net_na (by decide)
    generalize mm_net (mm_upF M 0 12 (.int s)) 3 n T = M1 at e1 b0 b1 b3 ⊢
    rw [show (0 : Int32) = nI 0 from rfl]
    refine fld (s := 0) (n := k) (G := fun i (q : Nat × mm_Mem) => mm_X mX9_drawn 5 none (0, 0) 34 [.ref 0, .int (nI k), .null, .int (nI q.1), .int (nI i)] [] q.2 _) (v0 := (0, M1)) (I := fun i q => q.1 = (g_deeds (n, T, s) i).1 ∧ dC q.2 pf fk (g_deeds (n, T, s) i).2 ∧ ∀ j, 3 ≤ j → q.2 j = M1 j) (Nat.zero_le k) ⟨rfl, ⟨b0, b1, h4⟩, fun _ _ => rfl⟩ ?_
    rintro i ⟨v, M2⟩ _ hi ⟨d1, d2, d3⟩ ih
    dsimp only at d1 d2 d3
    have lv := g_deeds_le (σ := (n, T, s)) i
    rw [← d1] at lv
    obtain ⟨oo, C, ac2⟩ := h11.eq (M' := M2) fun j j1 j2 => (d3 j (by omega)).trans (e1 j (by omega) (by omega) (by omega))
    have f3 : na M2 3 n T := b3.eq (d3 3 (by decide)) (d3 4 (by decide))
    refine bX9_drawn_34 ac2.1 (d2.1.r 8 26 (by decide)) (d2.1.r 1 3 (by decide)) (fun c2 c3 => ?_) (fun c2 c3 => ?_) (fun c2 => ?_)
    · rw [ks_le (by omega) (by omega)] at c2
      obtain rfl : i = k := by omega
      rw [show (0 : Int32) = nI 0 from rfl, ks_le (by omega) (by decide)] at c3
      rw [← d1, if_neg (by omega)]
      refine bX9_drawn_71 ⟨rfl, h.act (fun pf' sd' h' => ?_) d2.2.1 d2.2.2 ⟨n, T, f3, h4⟩ ⟨oo, C, ac2⟩ fun j j1 j2 j3 => (d3 j (by omega)).trans (e1 j (by omega) (by omega) (by omega)), fun j hj => (d3 j (by omega)).trans (e1 j (by omega) (by omega) (by omega))⟩
      obtain rfl := co_pf h1 h'
      exact ⟨_, d2.1⟩
    · rw [ks_le (by omega) (by omega)] at c2
      obtain rfl : i = k := by omega
      rw [show (0 : Int32) = nI 0 from rfl, ks_le (by omega) (by decide)] at c3
      rw [← d1, if_pos (by omega)]
      refine mm_Call.of (s_keep ⟨oo, C, ac2⟩ f3 h4 (by decide)) (by decide) ?_
      rintro _ M3 ⟨rfl, k1, k2⟩
      refine bX9_drawn_71 ⟨rfl, h.act (fun pf' sd' h' => ?_) (d2.2.1.eq (k2 1 (by decide) (by decide)) (k2 2 (by decide) (by decide))) d2.2.2 ⟨n, T, f3.eq (k2 3 (by decide) (by decide)) (k2 4 (by decide) (by decide)), h4⟩ k1 fun j j1 j2 j3 => (k2 j (by omega) (by omega)).trans ((d3 j (by omega)).trans (e1 j (by omega) (by omega) (by omega))), fun j hj => (k2 j (by omega) (by omega)).trans ((d3 j (by omega)).trans (e1 j (by omega) (by omega) (by omega)))⟩
      obtain rfl := co_pf h1 h'
      exact ⟨_, d2.1.eq (k2 0 (by decide) (by decide))⟩
    · rw [ks_le (by omega) (by omega)] at c2
      refine mm_Call.of (s_didDeed d2) (by decide) ?_
      rintro _ M3 ⟨rfl, k1, k2⟩
      refine bX9_drawn_44 (fun c3 => ?_) (fun c3 => ?_)
      · rw [nI_1]
        refine ih (v, M3) (by omega) ⟨?_, by rw [g_deeds_s]; exact k1, fun j hj => (k2 j hj).trans (d3 j hj)⟩
        rw [g_deeds_s]
        show v = if (g_deed (g_deeds (n, T, s) i).2).1 = true then (g_deeds (n, T, s) i).1 + 1 else (g_deeds (n, T, s) i).1
        rw [if_neg, d1]
        intro q
        rw [q] at c3
        exact absurd c3 (by decide)
      · rw [nI_1, nI_1]
        refine ih (v + 1, M3) (by omega) ⟨?_, by rw [g_deeds_s]; exact k1, fun j hj => (k2 j hj).trans (d3 j hj)⟩
        rw [g_deeds_s]
        show v + 1 = if (g_deed (g_deeds (n, T, s) i).2).1 = true then (g_deeds (n, T, s) i).1 + 1 else (g_deeds (n, T, s) i).1
        rw [if_pos, d1]
        cases q : (g_deed (g_deeds (n, T, s) i).2).1 with
        | true => rfl
        | false =>
          rw [q] at c3
          exact absurd rfl c3
  · rw [o_drawn_n fun q => c1 ((ks_160 x).mp q).2]
    exact ⟨rfl, h, fun _ _ => rfl⟩
