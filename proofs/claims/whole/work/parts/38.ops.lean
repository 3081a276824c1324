/-! CALLS OF BOTH SIDES: the tape, ties, points, undo, what is kept -/
def OC (d : Nat) (y : mm_MR) (av : List Value) (M : mm_Mem) (o : Int32 × g_st) : Prop := mm_S d y 0 0 (.ref 0 :: av) M (fun r M' => r = some (.int o.1) ∧ CS M' o.2 ∧ fC M M')
def OM (d : Nat) (y : mm_MR) (av : List Value) (M : mm_Mem) (o : Int32 × g_st) : Prop := mm_S d y 0 0 (.ref 31 :: av) M (fun r M' => r = some (.int o.1) ∧ MS M' o.2 ∧ fM M M')
theorem ndC {M : mm_Mem} {o : Int32 × g_st} : ∀ (r : Option Value) (M' : mm_Mem), (r = some (.int o.1) ∧ CS M' o.2 ∧ fC M M') → ∀ x, r ≠ some (.double x) := fun r M' h x e => by rw [h.1] at e; cases e
theorem ndM {M : mm_Mem} {o : Int32 × g_st} : ∀ (r : Option Value) (M' : mm_Mem), (r = some (.int o.1) ∧ MS M' o.2 ∧ fM M M') → ∀ x, r ≠ some (.double x) := fun r M' h x e => by rw [h.1] at e; cases e
def o_feed : g_st → Int32 → Int32 → Int32 → Int32 → Int32 → Int32 × g_st
  | (n, T, L, K, t, f, fk), a, b, c, d, e => if t + 20 ≤ 740 then (nI (t + 20), (n, T, L, K, t + 20, g_w20 f t a b c d e, fk)) else (-1, (n, T, L, K, t, f, fk))
theorem oC_feed {M : mm_Mem} {σ : g_st} {a b c d e : Int32} (h : CS M σ) : OC 2 mX9_feed [.int a, .int b, .int c, .int d, .int e] M (o_feed σ a b c d e) := by
  obtain ⟨n, T, L, K, t, f, fk⟩ := σ
  obtain ⟨⟨pf, sd, h1, h2⟩, h3, h4, h5, h6, h7, h8, h9, h10, h11⟩ := id h
  refine mm_S.mono (s_feedC h1 h6) ?_
  rintro r M' (⟨q1, rfl, rfl⟩ | ⟨q1, rfl, rfl⟩)
  · dsimp only [o_feed]
    rw [if_pos q1]
    have e : ∀ j, j ≠ 5 → j ≠ 6 → g_tp M (t + 20) (g_w20 f t a b c d e) j = M j := fun j h1 h2 => g_tp_n h1 h2
    exact ⟨rfl, ⟨⟨pf, sd, h1.eq (e 0 (by decide) (by decide)), h2.eq (e 29 (by decide) (by decide)) (e 30 (by decide) (by decide))⟩, h3.eq (e 1 (by decide) (by decide)) (e 2 (by decide) (by decide)), h4, h5.eq (e 3 (by decide) (by decide)) (e 4 (by decide) (by decide)), g_tp_ct q1, h7.eq fun j _ _ => e j (by omega) (by omega), h8.eq fun j _ _ => e j (by omega) (by omega), h9.eq fun j _ _ => e j (by omega) (by omega), h10.eq fun j _ _ => e j (by omega) (by omega), h11.eq fun j _ _ => e j (by omega) (by omega)⟩, fun j hj => e j (by omega) (by omega)⟩
  · dsimp only [o_feed]
    rw [if_neg q1]
    exact ⟨rfl, h, fun _ _ => rfl⟩
theorem oM_feed {M : mm_Mem} {σ : g_st} {a b c d e : Int32} (h : MS M σ) : OM 1 mX10_feed [.int a, .int b, .int c, .int d, .int e] M (o_feed σ a b c d e) := by
  obtain ⟨n, T, L, K, t, f, fk⟩ := σ
  obtain ⟨th, h⟩ := h
  obtain ⟨⟨F, w, m1, m2, m3, m4, m5⟩, h3, h4, ⟨h5, h5'⟩, ⟨C, h6, h6'⟩, h7, h8⟩ := id h
  refine mm_S.mono (s_feedM m1 m3 h5 h5') ?_
  rintro r M' (⟨q1, rfl, k1, k2, k3⟩ | ⟨q1, rfl, k1, k3⟩)
  · dsimp only [o_feed]
    rw [if_pos q1]
    refine ⟨rfl, ⟨_, ⟨_, w, k1, rfl, pk_us, ?_, ?_⟩, h3.eq (k3 33 (by decide) (by decide)), h4, ⟨k2, q1⟩, ⟨C, h6.eq (k3 36 (by decide) (by decide)), h6'⟩, h7.eq (k3 35 (by decide) (by decide)) (k3 43 (by decide) (by decide)), h8.eq fun j _ _ _ _ _ => k3 j (by omega) (by omega)⟩, fun j hj => k3 j (by omega) (by omega)⟩
    · rw [pk_un (by decide), pk_un (by decide)]; exact m4
    · rw [pk_un (by decide), pk_un (by decide)]; exact m5
  · dsimp only [o_feed]
    rw [if_neg q1]
    exact ⟨rfl, ⟨_, h.scr m1 k1 (pk_un (by decide)) (pk_un (by decide)) (pk_un (by decide)) (fun j h1 => k3 j (by omega)) (h8.eq fun j _ _ _ _ _ => k3 j (by omega))⟩, fun j hj => k3 j (by omega)⟩
noncomputable def o_end : g_st → Int32 → Int32 × g_st
  | (n, T, L, K, t, f, fk), x => pif (g_cut t x) (1, (n, T, L, K, x.toNatClampNeg, f, fk)) (0, (n, T, L, K, t, f, fk))
theorem oC_end {M : mm_Mem} {σ : g_st} {x : Int32} (h : CS M σ) : OC 1 mX9_end [.int x] M (o_end σ x) := by
  obtain ⟨n, T, L, K, t, f, fk⟩ := σ
  obtain ⟨⟨pf, sd, h1, h2⟩, h3, h4, h5, h6, h7, h8, h9, h10, h11⟩ := id h
  have ht := h6.2.2
  refine mm_S.mono (s_endC h1 h6) ?_
  rintro r M' (⟨m, q1, rfl, rfl, rfl⟩ | ⟨q1, rfl, rfl⟩)
  · dsimp only [o_end]
    rw [pif_t ⟨m, q1, rfl⟩, nI_clamp (by omega)]
    have e : ∀ j, j ≠ 5 → j ≠ 6 → g_tp M m f j = M j := fun j h1 h2 => g_tp_n h1 h2
    exact ⟨rfl, ⟨⟨pf, sd, h1.eq (e 0 (by decide) (by decide)), h2.eq (e 29 (by decide) (by decide)) (e 30 (by decide) (by decide))⟩, h3.eq (e 1 (by decide) (by decide)) (e 2 (by decide) (by decide)), h4, h5.eq (e 3 (by decide) (by decide)) (e 4 (by decide) (by decide)), g_tp_ct (by omega), h7.eq fun j _ _ => e j (by omega) (by omega), h8.eq fun j _ _ => e j (by omega) (by omega), h9.eq fun j _ _ => e j (by omega) (by omega), h10.eq fun j _ _ => e j (by omega) (by omega), h11.eq fun j _ _ => e j (by omega) (by omega)⟩, fun j hj => e j (by omega) (by omega)⟩
  · dsimp only [o_end]
    rw [pif_f q1]
    exact ⟨rfl, h, fun _ _ => rfl⟩
theorem oM_end {M : mm_Mem} {σ : g_st} {x : Int32} (h : MS M σ) : OM 0 mX10_end [.int x] M (o_end σ x) := by
  obtain ⟨n, T, L, K, t, f, fk⟩ := σ
  obtain ⟨th, h⟩ := h
  obtain ⟨⟨F, w, m1, m2, m3, m4, m5⟩, h3, h4, ⟨h5, h5'⟩, ⟨C, h6, h6'⟩, h7, h8⟩ := id h
  refine mm_S.mono (s_endM m1 m3 h5') ?_
  rintro r M' ⟨⟨m, q1, rfl, rfl, k1⟩ | ⟨q1, rfl, k1⟩, k3⟩
  · dsimp only [o_end]
    rw [pif_t ⟨m, q1, rfl⟩, nI_clamp (by omega)]
    refine ⟨rfl, ⟨_, ⟨_, w, k1, rfl, pk_us, ?_, ?_⟩, h3.eq (k3 33 (by decide)), h4, ⟨mm_at.eq h5 (k3 32 (by decide)), by omega⟩, ⟨C, h6.eq (k3 36 (by decide)), h6'⟩, h7.eq (k3 35 (by decide)) (k3 43 (by decide)), h8.eq fun j _ _ _ _ _ => k3 j (by omega)⟩, fun j hj => k3 j (by omega)⟩
    · rw [pk_un (by decide), pk_un (by decide)]; exact m4
    · rw [pk_un (by decide), pk_un (by decide)]; exact m5
  · dsimp only [o_end]
    rw [pif_f q1]
    exact ⟨rfl, ⟨_, h.scr m1 k1 (pk_un (by decide)) (pk_un (by decide)) (pk_un (by decide)) (fun j h1 => k3 j (by omega)) (h8.eq fun j _ _ _ _ _ => k3 j (by omega))⟩, fun j hj => k3 j (by omega)⟩
def o_fault : g_st → Int32 × g_st
  | (n, T, L, K, t, f, fk) => (fk, (n, T, L, K, t, f, fk))
theorem oC_fault {M : mm_Mem} {σ : g_st} (h : CS M σ) : OC 0 mX9_fault [] M (o_fault σ) := by
  obtain ⟨n, T, L, K, t, f, fk⟩ := σ
  obtain ⟨⟨pf, sd, h1, h2⟩, -⟩ := id h
  exact mm_S.of rfl rfl (Nat.le_of_ble_eq_true rfl) ndC (bX9_fault_0 h1.2.2.1 ⟨rfl, h, fun _ _ => rfl⟩)
/-- thrown is put back -/
theorem MT.z {M : mm_Mem} {th : Int32} {σ : g_st} (h : MT M th σ) : MT (mm_upF M 31 0 (.int 0)) 0 σ := by
  obtain ⟨n, T, L, K, t, f, fk⟩ := σ
  obtain ⟨⟨F, w, m1, m2⟩, -⟩ := id h
  have := h.scr m1 m1.s0 (pk_un (by decide)) (pk_un (by decide)) (pk_un (by decide)) (fun j h1 => mm_upF_n (by omega)) (h.msc.eq fun j _ _ _ _ _ => mm_upF_n (by omega))
  rwa [pk_us] at this
theorem fM_z {M : mm_Mem} {v : Value} {k : Nat} : fM M (mm_upF M 31 k v) := fun j hj => mm_upF_n (by omega)
theorem MT.mo {M : mm_Mem} {th : Int32} {n : Nat} {T : Nat → Nat} {L : g_nets} {K : g_kept} {t : Nat} {f : Nat → Int32} {fk : Int32} (h : MT M th (n, T, L, K, t, f, fk)) : ∃ F w, mo M F w ∧ F 0 = th ∧ F 2 = nI t ∧ F 7 = fk ∧ F 21 = nI L.length := h.1
theorem MT.now {M : mm_Mem} {th : Int32} {n : Nat} {T : Nat → Nat} {L : g_nets} {K : g_kept} {t : Nat} {f : Nat → Int32} {fk : Int32} (h : MT M th (n, T, L, K, t, f, fk)) : ra M 33 n T ∧ gw n T := ⟨h.2.1, h.2.2.1⟩
theorem oM_fault {M : mm_Mem} {σ : g_st} (h : MS M σ) : OM 0 mX10_fault [] M (o_fault σ) := by
  obtain ⟨n, T, L, K, t, f, fk⟩ := σ
  obtain ⟨th, h⟩ := h
  obtain ⟨F, w, m1, m2, m3, m4, m5⟩ := h.mo
  refine mm_S.of rfl rfl (Nat.le_of_ble_eq_true rfl) ndM (bX10_fault_0 (m1.i 0 (by decide)) (m1.i 7 (by decide)) ⟨?_, ⟨_, h.z⟩, fM_z⟩)
  rw [m4]
  rfl
/-! ties -/
def o_turn (tb : Bool) : g_st → Int32 → Int32 → Int32 × g_st
  | (n, T, L, K, t, f, fk), x, y => if x.toNatClampNeg < n ∧ y.toNatClampNeg < n ∧ x.toNatClampNeg ≠ y.toNatClampNeg ∧ x = nI x.toNatClampNeg ∧ y = nI y.toNatClampNeg then (if (T x.toNatClampNeg).testBit y.toNatClampNeg = tb then (0, (n, g_flip T x.toNatClampNeg y.toNatClampNeg, g_kp L (n, T), K, t, f, fk)) else (1, (n, T, L, K, t, f, fk))) else (-1, (n, T, L, K, t, f, fk))
theorem ks_bo {P : Prop} {tb b : Bool} (h : P ↔ b = true) : ks_b P = ks_o tb ↔ b = tb := by
  cases b with
  | true =>
    rw [ks_bt (h.mpr rfl)]
    cases tb <;> decide
  | false =>
    rw [ks_bf fun q => by cases h.mp q]
    cases tb <;> decide
theorem o_turn_y {tb : Bool} {n a b : Nat} {T : Nat → Nat} {L : g_nets} {K : g_kept} {t : Nat} {f : Nat → Int32} {fk : Int32} (hn : n ≤ 14) (ha : a < n) (hb : b < n) (hab : a ≠ b) : o_turn tb (n, T, L, K, t, f, fk) (nI a) (nI b) = if (T a).testBit b = tb then (0, (n, g_flip T a b, g_kp L (n, T), K, t, f, fk)) else (1, (n, T, L, K, t, f, fk)) := by
  dsimp only [o_turn]
  rw [nI_clamp (by omega), nI_clamp (by omega), if_pos ⟨ha, hb, hab, rfl, rfl⟩]
theorem o_turn_n {tb : Bool} {n : Nat} {x y : Int32} {T : Nat → Nat} {L : g_nets} {K : g_kept} {t : Nat} {f : Nat → Int32} {fk : Int32} (h : ¬ g_two n x y) : o_turn tb (n, T, L, K, t, f, fk) x y = (-1, (n, T, L, K, t, f, fk)) := by
  dsimp only [o_turn]
  rw [if_neg]
  rintro ⟨h1, h2, h3, h4, h5⟩
  exact h ⟨_, _, h1, h2, h3, h4, h5⟩
theorem s_turnC {M : mm_Mem} {σ : g_st} {x y : Int32} (tb : Bool) (h : CS M σ) : OC 4 mX9_change [.int x, .int y, .int (ks_o tb)] M (o_turn tb σ x y) := by
  obtain ⟨n, T, L, K, t, f, fk⟩ := σ
  obtain ⟨⟨pf, sd, h1, h2⟩, h3, h4, h5, h6, h7, h8, h9, h10, h11⟩ := id h
  refine mm_S.mono (s_changeC h1 h3 h4 h11) ?_
  rintro r M' (⟨a, b, q1, q2, q3, rfl, rfl, q4, rfl, k1, k2, k3⟩ | ⟨a, b, q1, q2, q3, rfl, rfl, q4, rfl, rfl⟩ | ⟨q1, rfl, rfl⟩)
  · rw [ks_bo Iff.rfl] at q4
    rw [o_turn_y h4.1 q1 q2 q3, if_pos q4]
    exact ⟨rfl, h.act (co_same (k3 0 (by decide) (by decide) (by decide) (by decide))) k2 (gw_flip h4 q1 q2 q3) (h5.eq (k3 3 (by decide) (by decide) (by decide) (by decide)) (k3 4 (by decide) (by decide) (by decide) (by decide))) k1 fun j h1 h2 h3 => k3 j (by omega) (by omega) (by omega) (by omega), fun j hj => k3 j (by omega) (by omega) (by omega) (by omega)⟩
  · rw [Ne, ks_bo Iff.rfl] at q4
    rw [o_turn_y h4.1 q1 q2 q3, if_neg q4]
    exact ⟨rfl, h, fun _ _ => rfl⟩
  · rw [o_turn_n q1]
    exact ⟨rfl, h, fun _ _ => rfl⟩
theorem CS.fd {M : mm_Mem} {σ : g_st} (h : CS M σ) (k a : Nat) (hk : (k, a) ∈ co_refs) : mm_fd M 0 9 k (.ref a) := by
  obtain ⟨n, T, L, K, t, f, fk⟩ := σ
  obtain ⟨⟨pf, sd, h1, h2⟩, -⟩ := h
  exact h1.r k a hk
theorem oC_tie {M : mm_Mem} {σ : g_st} {x y : Int32} (h : CS M σ) : OC 5 mX9_tie [.int x, .int y] M (o_turn false σ x y) :=
  mm_S.of rfl rfl (Nat.le_of_ble_eq_true rfl) ndC (bX9_tie_0 (h.fd 0 1 (by decide)).rc (mm_Call.of (s_turnC false h) (by decide) fun r M' hr => by
    obtain ⟨rfl, k⟩ := hr
    exact bX9_tie_7 ⟨rfl, k⟩))
theorem oC_part {M : mm_Mem} {σ : g_st} {x y : Int32} (h : CS M σ) : OC 5 mX9_part [.int x, .int y] M (o_turn true σ x y) :=
  mm_S.of rfl rfl (Nat.le_of_ble_eq_true rfl) ndC (bX9_part_0 (h.fd 0 1 (by decide)).rc (mm_Call.of (s_turnC true h) (by decide) fun r M' hr => by
    obtain ⟨rfl, k⟩ := hr
    exact bX9_part_7 ⟨rfl, k⟩))
/-- the model snaps its net: what then holds -/
theorem s_snap' {M : mm_Mem} {n : Nat} {T : Nat → Nat} {L : g_nets} {K : g_kept} {t : Nat} {f : Nat → Int32} {fk th : Int32} (h : MT M th (n, T, L, K, t, f, fk)) : mm_S 1 mX10_snap 0 0 [.ref 31] M (fun r M' => r = none ∧ MT M' th (n, T, g_kp L (n, T), K, t, f, fk) ∧ ∀ j, j ≠ 31 → j ≠ 36 → M' j = M j) := by
  obtain ⟨⟨F, w, m1, m2, m3, m4, m5⟩, h3, h4, ⟨h5, h5'⟩, ⟨C, h6, h6'⟩, h7, h8⟩ := id h
  refine mm_S.mono (s_snap ⟨m1, m5, C, h6, h6'⟩ h3 h4) ?_
  rintro r M' ⟨rfl, ⟨x, k1, k2, C', k3, k4⟩, k5⟩
  refine ⟨rfl, ⟨⟨_, w, k1, ?_, ?_, ?_, k2⟩, h3.eq (k5 33 (by decide) (by decide)), h4, ⟨mm_at.eq h5 (k5 32 (by decide) (by decide)), h5'⟩, ⟨C', k3, k4⟩, h7.eq (k5 35 (by decide) (by decide)) (k5 43 (by decide) (by decide)), h8.eq fun j _ _ _ _ _ => k5 j (by omega) (by omega)⟩, k5⟩
  · rw [pk_un (by decide)]; exact m2
  · rw [pk_un (by decide)]; exact m3
  · rw [pk_un (by decide)]; exact m4
/-- the model's net is another -/
theorem MT.net {M : mm_Mem} {n n' : Nat} {T T' : Nat → Nat} {L : g_nets} {K : g_kept} {t : Nat} {f : Nat → Int32} {fk th : Int32} (h : MT M th (n, T, L, K, t, f, fk)) (hw : gw n' T') : MT (mm_up M 33 (mm_aI 15 (gk_f n' T'))) th (n', T', L, K, t, f, fk) := by
  obtain ⟨⟨F, w, m1, m2⟩, h3, h4, ⟨h5, h5'⟩, ⟨C, h6, h6'⟩, h7, h8⟩ := h
  exact ⟨⟨F, w, m1.up (by decide), m2⟩, mm_at.s h3.1, hw, ⟨h5.n (by decide), h5'⟩, ⟨C, h6.n (by decide), h6'⟩, h7.eq (mm_up_n (by decide)) (mm_up_n (by decide)), h8.eq fun j _ _ _ _ _ => mm_up_n (by omega)⟩
theorem q_two {n : Nat} (hn : n ≤ 14) (x y : Int32) : g_two n x y ↔ (¬ qX10_isIn x 0 (nI n - 1) = 0 ∧ ¬ qX10_isIn y 0 (nI n - 1) = 0 ∧ ¬ x = y) := by
  rw [q_isIn hn, q_isIn hn, ks_b0, ks_b0, Classical.not_not, Classical.not_not]
  constructor
  · rintro ⟨a, b, h1, h2, h3, rfl, rfl⟩
    exact ⟨⟨a, h1, rfl⟩, ⟨b, h2, rfl⟩, by rw [ks_eqI (by omega) (by omega)]; exact h3⟩
  · rintro ⟨⟨a, h1, rfl⟩, ⟨b, h2, rfl⟩, h3⟩
    exact ⟨a, b, h1, h2, fun e => h3 (by rw [e]), rfl, rfl⟩
theorem s_turnM {M : mm_Mem} {σ : g_st} {x y : Int32} (tb : Bool) (h : MS M σ) : OM 2 mX10_turnsIf [.int x, .int y, .int (ks_o tb)] M (o_turn tb σ x y) := by
  obtain ⟨n, T, L, K, t, f, fk⟩ := σ
  obtain ⟨th, h⟩ := h
  obtain ⟨F, w, m1, m2, m3, m4, m5⟩ := h.mo
  obtain ⟨o, hw⟩ := h.now
  have hn := hw.1
  have hz := h.z
  have bad : ¬ g_two n x y → some (Value.int (-1)) = some (.int (o_turn tb (n, T, L, K, t, f, fk) x y).1) ∧ MS (mm_upF M 31 0 (.int 0)) (o_turn tb (n, T, L, K, t, f, fk) x y).2 ∧ fM M (mm_upF M 31 0 (.int 0)) := by
    intro q
    rw [o_turn_n q]
    exact ⟨rfl, ⟨_, hz⟩, fM_z⟩
  have good : ∀ {P : Prop}, ¬ qX10_isIn x 0 (gk_f n T (Int32.toNatClampNeg 0) - 1) = 0 → ¬ qX10_isIn y 0 (gk_f n T (Int32.toNatClampNeg 0) - 1) = 0 → ¬ x = y → (∀ a b, a < n → b < n → a ≠ b → x = nI a → y = nI b → P) → P := by
    intro P c1 c2 c3 k
    rw [gk_0] at c1 c2
    obtain ⟨a, b, h1, h2, h3, h4, h5⟩ := (q_two hn x y).mpr ⟨c1, c2, c3⟩
    exact k a b h1 h2 h3 h4 h5
  refine mm_S.of rfl rfl (Nat.le_of_ble_eq_true rfl) ndM (bX10_turnsIf_0 o (m1.i 0 (by decide)) (m1.r 10 33 (by decide)) (by decide) (by decide) gk_in0 (fun c => ?_) (fun _ => gk_in0) (fun c c1 => ?_) (fun c c1 c2 => ?_) (fun c c1 c2 c3 => ?_) (fun c c1 c2 c3 => ?_) (fun c c1 c2 => ?_))
  · rw [gk_0] at c
    exact bad fun q => ((q_two hn x y).mp q).1 c
  · rw [gk_0] at c1
    exact bad fun q => ((q_two hn x y).mp q).2.1 c1
  · exact good c c1 c2 fun a b h1 h2 h3 h4 h5 => by rw [h4]; exact gk_in1 (by omega)
  · refine good c c1 c2 fun a b h1 h2 h3 h4 h5 => ?_
    subst h4
    subst h5
    rw [gk_1 (by omega), ks_mhas (by have := gw_ok hw a; omega) (by omega), ks_bo Iff.rfl] at c3
    rw [o_turn_y hn h1 h2 h3, if_pos c3]
    refine mm_Call.of (s_snap' hz) (by decide) ?_
    rintro _ M1 ⟨rfl, k1, k2⟩
    obtain ⟨F1, w1, n1, n2, n3, n4, n5⟩ := k1.mo
    obtain ⟨o1, -⟩ := k1.now
    refine bX10_turnsIf_47 o1 (n1.r 10 33 (by decide)) (by decide) (gk_in1 (by omega)) (gk_in1 (by omega)) (gk_in1 (by omega)) (gk_in1 (by omega)) ?_
    rw [gk_turns (by omega) (by omega) h3]
    exact ⟨rfl, ⟨_, k1.net (gw_flip hw h1 h2 h3)⟩, fun j hj => by rw [mm_up_n (by omega), k2 j (by omega) (by omega), mm_upF_n (by omega)]⟩
  · refine good c c1 c2 fun a b h1 h2 h3 h4 h5 => ?_
    subst h4
    subst h5
    rw [gk_1 (by omega), ks_mhas (by have := gw_ok hw a; omega) (by omega), ks_bo Iff.rfl] at c3
    rw [o_turn_y hn h1 h2 h3, if_neg c3]
    exact ⟨rfl, ⟨_, hz⟩, fM_z⟩
  · exact bad fun q => ((q_two hn x y).mp q).2.2 c2
theorem MS.rc {M : mm_Mem} {σ : g_st} (h : MS M σ) : mm_rc M 31 10 := by
  obtain ⟨n, T, L, K, t, f, fk⟩ := σ
  obtain ⟨th, h⟩ := h
  obtain ⟨F, w, m1, -⟩ := h.mo
  exact (m1.i 0 (by decide)).rc
theorem oM_tie {M : mm_Mem} {σ : g_st} {x y : Int32} (h : MS M σ) : OM 3 mX10_tie [.int x, .int y] M (o_turn false σ x y) :=
  mm_S.of rfl rfl (Nat.le_of_ble_eq_true rfl) ndM (bX10_tie_0 h.rc (mm_Call.of (s_turnM false h) (by decide) fun r M' hr => by
    obtain ⟨rfl, k⟩ := hr
    exact bX10_tie_7 ⟨rfl, k⟩))
theorem oM_part {M : mm_Mem} {σ : g_st} {x y : Int32} (h : MS M σ) : OM 3 mX10_part [.int x, .int y] M (o_turn true σ x y) :=
  mm_S.of rfl rfl (Nat.le_of_ble_eq_true rfl) ndM (bX10_part_0 h.rc (mm_Call.of (s_turnM true h) (by decide) fun r M' hr => by
    obtain ⟨rfl, k⟩ := hr
    exact bX10_part_7 ⟨rfl, k⟩))
/-! points come and go -/
noncomputable def o_come : g_st → Int32 → Int32 × g_st
  | (n, T, L, K, t, f, fk), x => pif (n < 14 ∧ g_set n x) (nI n, (n + 1, g_add n T x.toNatClampNeg, g_kp L (n, T), K, t, f, fk)) (-1, (n, T, L, K, t, f, fk))
theorem oC_come {M : mm_Mem} {σ : g_st} {x : Int32} (h : CS M σ) : OC 4 mX9_come [.int x] M (o_come σ x) := by
  obtain ⟨n, T, L, K, t, f, fk⟩ := σ
  obtain ⟨⟨pf, sd, h1, h2⟩, h3, h4, h5, h6, h7, h8, h9, h10, h11⟩ := id h
  refine mm_S.mono (s_comeC h1 h3 h4 h11) ?_
  rintro r M' (⟨S, q1, q2, rfl, rfl, k1, k2, k3⟩ | ⟨q1, rfl, rfl⟩)
  · have := ks_p14 h4.1 q2
    dsimp only [o_come]
    rw [pif_t ⟨q1, S, q2, rfl⟩, nI_clamp (by omega)]
    exact ⟨rfl, h.act (co_same (k3 0 (by decide) (by decide) (by decide) (by decide))) k2 (gw_add h4 q1 q2) (h5.eq (k3 3 (by decide) (by decide) (by decide) (by decide)) (k3 4 (by decide) (by decide) (by decide) (by decide))) k1 fun j h1 h2 h3 => k3 j (by omega) (by omega) (by omega) (by omega), fun j hj => k3 j (by omega) (by omega) (by omega) (by omega)⟩
  · dsimp only [o_come]
    rw [pif_f q1]
    exact ⟨rfl, h, fun _ _ => rfl⟩
theorem q_mayCome {n : Nat} {T : Nat → Nat} (hn : n ≤ 14) (x : Int32) : qX10_mayCome x (gk_f n T) = ks_b (n < 14 ∧ g_set n x) := by
  have hm : 2 ^ n ≤ 16384 := Nat.pow_le_pow_right (n := 2) (by decide) hn
  have p0 := Nat.pow_pos (a := 2) (n := n) (by decide)
  unfold qX10_mayCome
  rw [gk_0]
  by_cases h1 : (14 : Int32) ≤ nI n
  · rw [if_pos h1, ks_bf]
    rw [ks_le14 (by omega)] at h1
    omega
  · rw [if_neg h1]
    rw [ks_le14 (by omega)] at h1
    rw [ks_all n (by omega)]
    by_cases h2 : x < 0
    · rw [if_pos h2, ks_bf]
      rintro ⟨-, S, hS, rfl⟩
      exact nI_pos (by omega) h2
    · rw [if_neg h2]
      by_cases h3 : x ≤ nI (2 ^ n - 1)
      · obtain ⟨S, a1, a2⟩ := nI_of2 (M := nI (2 ^ n - 1)) (n := 2 ^ n - 1) (nI_toInt (by omega)) h2 h3
        first
          | rw [if_pos h3]
          | rw [if_neg (by rw [Int32.not_lt]; exact h3)]
        rw [ks_bt ⟨by omega, S, by omega, a2⟩]
      · first
          | rw [if_neg h3]
          | rw [if_pos (Int32.not_le.mp h3)]
        rw [ks_bf]
        rintro ⟨-, S, hS, rfl⟩
        exact h3 ((ks_le (by omega) (by omega)).mpr (by omega))
theorem oM_come {M : mm_Mem} {σ : g_st} {x : Int32} (h : MS M σ) : OM 2 mX10_come [.int x] M (o_come σ x) := by
  obtain ⟨n, T, L, K, t, f, fk⟩ := σ
  obtain ⟨th, h⟩ := h
  obtain ⟨F, w, m1, m2, m3, m4, m5⟩ := h.mo
  obtain ⟨o, hw⟩ := h.now
  have hn := hw.1
  have hz := h.z
  refine mm_S.of rfl rfl (Nat.le_of_ble_eq_true rfl) ndM (bX10_come_0 o (m1.i 0 (by decide)) (m1.r 10 33 (by decide)) (by decide) (by decide) gk_in0 (fun _ _ => gk_in0) (fun c => ?_) (fun c => ?_))
  · rw [q_mayCome hn, ks_b0, Classical.not_not] at c
    obtain ⟨q1, S, q2, rfl⟩ := c
    have := ks_p14 hn q2
    dsimp only [o_come]
    rw [pif_t ⟨q1, S, q2, rfl⟩, nI_clamp (by omega)]
    refine mm_Call.of (s_snap' hz) (by decide) ?_
    rintro _ M1 ⟨rfl, k1, k2⟩
    obtain ⟨F1, w1, n1, n2, n3, n4, n5⟩ := k1.mo
    obtain ⟨o1, -⟩ := k1.now
    refine bX10_come_22 (n1.r 10 33 (by decide)) (mm_Call.eq (s_comes o1 hw q1 q2) (by decide) (bX10_come_30 (mm_at.s o1.1) ((n1.r 10 33 (by decide)).o (by decide)) gk_in0 ⟨?_, ⟨_, k1.net (gw_add hw q1 q2)⟩, fun j hj => by rw [mm_up_n (by omega), k2 j (by omega) (by omega), mm_upF_n (by omega)]⟩))
    rw [gk_0, nI_pred]
  · rw [q_mayCome hn, ks_b0] at c
    dsimp only [o_come]
    rw [pif_f c]
    exact ⟨rfl, ⟨_, hz⟩, fM_z⟩
noncomputable def o_go : g_st → Int32 → Int32 × g_st
  | (n, T, L, K, t, f, fk), x => pif (∃ p, p < n ∧ x = nI p) (nI (n - 1), (n - 1, g_drop (n - 1) T x.toNatClampNeg, g_kp L (n, T), K, t, f, fk)) (-1, (n, T, L, K, t, f, fk))
theorem oC_go {M : mm_Mem} {σ : g_st} {x : Int32} (h : CS M σ) : OC 4 mX9_go [.int x] M (o_go σ x) := by
  obtain ⟨n, T, L, K, t, f, fk⟩ := σ
  obtain ⟨⟨pf, sd, h1, h2⟩, h3, h4, h5, h6, h7, h8, h9, h10, h11⟩ := id h
  have hn := h4.1
  refine mm_S.mono (s_goC h1 h3 h4 h11) ?_
  rintro r M' (⟨m, p, rfl, q2, rfl, rfl, k1, k2, k3⟩ | ⟨q1, rfl, rfl⟩)
  · dsimp only [o_go]
    rw [pif_t ⟨p, by omega, rfl⟩, nI_clamp (by omega)]
    exact ⟨rfl, h.act (co_same (k3 0 (by decide) (by decide) (by decide) (by decide))) k2 (gw_drop h4 q2) (h5.eq (k3 3 (by decide) (by decide) (by decide) (by decide)) (k3 4 (by decide) (by decide) (by decide) (by decide))) k1 fun j h1 h2 h3 => k3 j (by omega) (by omega) (by omega) (by omega), fun j hj => k3 j (by omega) (by omega) (by omega) (by omega)⟩
  · dsimp only [o_go]
    rw [pif_f q1]
    exact ⟨rfl, h, fun _ _ => rfl⟩
theorem oM_go {M : mm_Mem} {σ : g_st} {x : Int32} (h : MS M σ) : OM 2 mX10_go [.int x] M (o_go σ x) := by
  obtain ⟨n, T, L, K, t, f, fk⟩ := σ
  obtain ⟨th, h⟩ := h
  obtain ⟨F, w, m1, m2, m3, m4, m5⟩ := h.mo
  obtain ⟨o, hw⟩ := h.now
  have hn := hw.1
  have hz := h.z
  refine mm_S.of rfl rfl (Nat.le_of_ble_eq_true rfl) ndM (bX10_go_0 o (m1.i 0 (by decide)) (m1.r 10 33 (by decide)) (by decide) (by decide) gk_in0 (fun c => ?_) (fun c => ?_))
  · rw [gk_0, q_isIn hn, ks_b0, Classical.not_not] at c
    obtain ⟨p, q2, rfl⟩ := c
    obtain ⟨m, rfl⟩ : ∃ m, n = m + 1 := ⟨n - 1, by omega⟩
    dsimp only [o_go]
    rw [pif_t ⟨p, q2, rfl⟩, nI_clamp (by omega)]
    refine mm_Call.of (s_snap' hz) (by decide) ?_
    rintro _ M1 ⟨rfl, k1, k2⟩
    obtain ⟨F1, w1, n1, n2, n3, n4, n5⟩ := k1.mo
    obtain ⟨o1, -⟩ := k1.now
    refine bX10_go_19 (n1.r 10 33 (by decide)) (mm_Call.eq (s_goes o1 hw (by omega)) (by decide) (bX10_go_27 (mm_at.s o1.1) ((n1.r 10 33 (by decide)).o (by decide)) gk_in0 ⟨?_, ⟨_, k1.net (gw_drop hw (by omega))⟩, fun j hj => by rw [mm_up_n (by omega), k2 j (by omega) (by omega), mm_upF_n (by omega)]⟩))
    rw [gk_0]
    rfl
  · rw [gk_0, q_isIn hn, ks_b0] at c
    dsimp only [o_go]
    rw [pif_f c]
    exact ⟨rfl, ⟨_, hz⟩, fM_z⟩
