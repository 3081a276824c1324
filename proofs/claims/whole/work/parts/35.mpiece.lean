/-! PIECES: the model's -/
theorem s_isPiece {M : mm_Mem} {a n S : Nat} {T : Nat → Nat} (o : ra M a n T) (hw : gw n T) (hS : S < 2 ^ n) : mm_S 4 mX10_isPiece 0 0 [.ref a, .int (nI S)] M (mm_Eq (some (.int (ks_b (¬ g_cov n T S ∧ ∀ p, S.testBit p = true → g_cov n T (ks_nd S (2 ^ p)))))) M) := by
  have hn := hw.1
  have hS' := ks_p14 hn hS
  refine mm_S.of rfl rfl (Nat.le_of_ble_eq_true rfl) mm_ndi (bX10_isPiece_0 (mm_Call.eq (s_isCovered o hw hS) (by decide) (bX10_isPiece_5 (fun c => ?_) (fun c => ⟨?_, rfl⟩))))
  · rw [ks_b0] at c
    refine srch (G := fun j => mm_X mX10_isPiece 4 none (0, 0) 12 [.ref a, .int (nI S), .int (nI j)] [] M _) (P := fun p => S.testBit p = true ∧ ¬ g_cov n T (ks_nd S (2 ^ p))) (Nat.zero_le n) ?_
    intro p _ hp hI ih
    have lt : ¬ gk_f n T (Int32.toNatClampNeg 0) ≤ nI p → p < n := by
      intro c
      rw [gk_0, ks_le (by omega) (by omega)] at c
      omega
    refine bX10_isPiece_12 o (by decide) gk_in0 (fun c1 => ⟨?_, rfl⟩) (fun c1 c2 => ?_) (fun c1 c2 => ?_)
    · rw [gk_0, ks_le (by omega) (by omega)] at c1
      rw [ks_bt ⟨c, fun q hq => Classical.byContradiction fun h => hI q (Nat.zero_le q) (by have := ks_bit_lt hS hq; omega) ⟨hq, h⟩⟩]
    · rw [ks_mhas (by omega) (by omega), ks_b0] at c2
      rw [nI_1]
      exact ih (lt c1) fun h => c2 h.1
    · have := lt c1
      rw [ks_mhas (by omega) (by omega), ks_b0, Classical.not_not] at c2
      rw [ks_shl1 _ (by omega), ks_andn]
      refine mm_Call.eq (s_isCovered o hw (ks_nd_lt hS)) (by decide) (bX10_isPiece_38 (fun c3 => ?_) (fun c3 => ⟨?_, rfl⟩))
      · rw [ks_b0, Classical.not_not] at c3
        rw [nI_1]
        exact ih this fun h => h.2 c3
      · rw [ks_b0] at c3
        rw [ks_bf fun h => c3 (h.2 p c2)]
  · rw [ks_b0, Classical.not_not] at c
    rw [ks_bf fun h => h.1 c]
/-- counted by size, then by number -/
noncomputable def g_cn (P : Nat → Prop) (n k S : Nat) : Nat := gs (fun R => g1 (P R ∧ ks_pop R < k)) (2 ^ n) + gs (fun R => g1 (P R ∧ ks_pop R = k)) S
theorem g_cn_s {P : Nat → Prop} {n k S : Nat} : g_cn P n k (S + 1) = g_cn P n k S + g1 (P S ∧ ks_pop S = k) := (Nat.add_assoc _ _ _).symm
theorem g_cn_k {P : Nat → Prop} {n k : Nat} : g_cn P n (k + 1) 0 = g_cn P n k (2 ^ n) := by
  unfold g_cn
  rw [← gs_add (f := fun R => g1 (P R ∧ ks_pop R < k))]
  show _ + 0 = _
  rw [Nat.add_zero]
  refine gs_eq fun R _ => ?_
  by_cases h : P R
  · rcases Nat.lt_trichotomy (ks_pop R) k with q | q | q
    · rw [g1_t ⟨h, by omega⟩, g1_t ⟨h, q⟩, g1_f (by omega)]
    · rw [g1_t ⟨h, by omega⟩, g1_f (by omega), g1_t ⟨h, q⟩]
    · rw [g1_f (by omega), g1_f (by omega), g1_f (by omega)]
  · rw [g1_f fun q => h q.1, g1_f fun q => h q.1, g1_f fun q => h q.1]
theorem g_cn_1 {P : Nat → Prop} {n k : Nat} (hk : 0 < k) : g_cn P n k 1 = g_cn P n k 0 := by
  rw [g_cn_s, g1_f]
  · rfl
  · rintro ⟨-, h⟩
    rw [show ks_pop 0 = 0 from rfl] at h
    omega
theorem g_cn_4 {P : Nat → Prop} {n : Nat} (h : ∀ R, P R → 4 ≤ ks_pop R) : g_cn P n 4 0 = 0 := by
  show _ + 0 = _
  rw [Nat.add_zero]
  exact gs_z fun R _ => g1_f fun q => by have := h R q.1; omega
theorem g_cn_7 {P : Nat → Prop} {n : Nat} (h : ∀ R, P R → ks_pop R ≤ 6) : g_cn P n 7 0 = gs (fun R => g1 (P R)) (2 ^ n) := by
  show _ + 0 = _
  rw [Nat.add_zero]
  exact gs_eq fun R _ => g1_c ⟨fun q => q.1, fun q => ⟨q, by have := h R q; omega⟩⟩
def g_vis (n k S R : Nat) : Prop := R < 2 ^ n ∧ (ks_pop R < k ∨ (ks_pop R = k ∧ R < S))
def g_lq (P : Nat → Prop) (n k S v : Nat) : Prop := (v = 0 ∧ ∀ R, g_vis n k S R → ¬ P R) ∨ (v ≠ 0 ∧ g_vis n k S v ∧ P v ∧ ∀ R, g_vis n k S R → P R → ks_pop v < ks_pop R ∨ (ks_pop v = ks_pop R ∧ v ≤ R))
theorem g_lq_c {P : Nat → Prop} {n k k' S S' v : Nat} (h : g_lq P n k S v) (e : ∀ R, g_vis n k' S' R ↔ g_vis n k S R) : g_lq P n k' S' v := by
  rcases h with ⟨h1, h2⟩ | ⟨h1, h2, h3, h4⟩
  · exact Or.inl ⟨h1, fun R hR => h2 R ((e R).mp hR)⟩
  · exact Or.inr ⟨h1, (e v).mpr h2, h3, fun R hR => h4 R ((e R).mp hR)⟩
theorem g_lq_n {P : Nat → Prop} {n k S v : Nat} (h : g_lq P n k S v) (hn : ¬ (P S ∧ ks_pop S = k)) : g_lq P n k (S + 1) v := by
  have sp : ∀ R, g_vis n k (S + 1) R → P R → g_vis n k S R := by
    rintro R ⟨h1, h2⟩ hP
    refine ⟨h1, ?_⟩
    by_cases e : R = S
    · subst e
      have : ¬ ks_pop R = k := fun q => hn ⟨hP, q⟩
      omega
    · omega
  rcases h with ⟨h1, h2⟩ | ⟨h1, h2, h3, h4⟩
  · exact Or.inl ⟨h1, fun R hR hP => h2 R (sp R hR hP) hP⟩
  · refine Or.inr ⟨h1, ⟨h2.1, ?_⟩, h3, fun R hR hP => h4 R (sp R hR hP) hP⟩
    have := h2.2
    omega
theorem g_lq_y {P : Nat → Prop} {n k S v : Nat} (h : g_lq P n k S v) (hS : S < 2 ^ n) (h0 : S ≠ 0) (hP : P S) (hk : ks_pop S = k) : g_lq P n k (S + 1) (if v = 0 then S else v) := by
  have sp : ∀ R, g_vis n k (S + 1) R → R = S ∨ g_vis n k S R := by
    rintro R ⟨h1, h2⟩
    by_cases e : R = S
    · exact Or.inl e
    · exact Or.inr ⟨h1, by omega⟩
  rcases h with ⟨h1, h2⟩ | ⟨h1, h2, h3, h4⟩
  · rw [if_pos h1]
    refine Or.inr ⟨h0, ⟨hS, by omega⟩, hP, fun R hR hq => ?_⟩
    rcases sp R hR with rfl | q
    · exact Or.inr ⟨rfl, Nat.le_refl _⟩
    · exact absurd hq (h2 R q)
  · rw [if_neg h1]
    refine Or.inr ⟨h1, ⟨h2.1, by have := h2.2; omega⟩, h3, fun R hR hq => ?_⟩
    rcases sp R hR with rfl | q
    · have := h2.2
      omega
    · exact h4 R q hq
def mp_F (F : Nat → Int32) (m l : Nat) : Nat → Int32 := upd (upd F 33 (nI m)) 34 (nI l)
theorem mp_F1 {F : Nat → Int32} {m l m' : Nat} : upd (mp_F F m l) 33 (nI m') = mp_F F m' l := by
  funext i
  unfold mp_F upd
  by_cases h : i = 33
  · subst h
    simp
  · simp [h]
theorem mp_F2 {F : Nat → Int32} {m l l' : Nat} : upd (mp_F F m l) 34 (nI l') = mp_F F m l' := by
  funext i
  unfold mp_F upd
  by_cases h : i = 34 <;> simp [h]
theorem s_laysPieces {M : mm_Mem} {F : Nat → Int32} {w : Int64} {n : Nat} {T : Nat → Nat} (h : mo M F w) (o : ra M 33 n T) (hw : gw n T) (hb : rj M 50 14) : mm_S 5 mX10_laysPieces 0 0 [.ref 31] M (fun r M' => r = none ∧ (∃ least fb, mo M' (mp_F F (g_pcs n T) least) w ∧ mm_at M' 50 (mm_aI 14 fb) ∧ g_lp (g_pc n T) (2 ^ n) least ∧ ∀ p, p < 14 → fb p = nI (g_blm n T p)) ∧ ∀ j, j ≠ 31 → j ≠ 50 → M' j = M j) := by
  have hn := hw.1
  obtain ⟨fb0, ob⟩ := hb
  have hm : 2 ^ n ≤ 16384 := Nat.pow_le_pow_right (n := 2) (by decide) hn
  have p0 := Nat.pow_pos (a := 2) (n := n) (by decide)
  have pc4 : ∀ R, g_pc n T R → 4 ≤ ks_pop R := fun R q => q.1.1
  have pc6 : ∀ R, g_pc n T R → ks_pop R ≤ 6 := fun R q => q.1.2
  refine mm_S.of rfl rfl (Nat.le_of_ble_eq_true rfl) (fun r M' h x e => by rw [h.1] at e; cases e) (bX10_laysPieces_0 (h.i 33 (by decide)) (h.i 34 (by decide)) ?_)
  have h2 : mo (mm_upF (mm_upF M 31 33 (.int 0)) 31 34 (.int 0)) (mp_F F 0 0) w := (h.set 33 0 (by decide)).set 34 0 (by decide)
  have e2 : ∀ j, j ≠ 31 → mm_upF (mm_upF M 31 33 (.int 0)) 31 34 (.int 0) j = M j := fun j hj => by rw [mm_upF_n hj, mm_upF_n hj]
  have ob2 := ob.eq (e2 50 (by decide))
  generalize mm_upF (mm_upF M 31 33 (.int 0)) 31 34 (.int 0) = M1 at h2 e2 ob2 ⊢
  rw [show M1 = mm_up M1 50 (mm_aI 14 fb0) from (mm_up_id ob2.2).symm]
  refine fld (s := 0) (n := 14) (G := fun p f => mm_X mX10_laysPieces 5 none (0, 0) 12 [.ref 31, .int (nI p), .null, .null] [] (mm_up M1 50 (mm_aI 14 f)) _) (I := fun p f => ∀ i, i < p → f i = 0) (Nat.zero_le 14) (fun i h => absurd h (Nat.not_lt_zero i)) ?_
  intro p f _ hp hI ih
  have t4 : mm_at (mm_up M1 50 (mm_aI 14 f)) 50 (mm_aI 14 f) := mm_at.s ob.1
  have t1 := h2.up (a := 50) (c := mm_aI 14 f) (by decide)
  have lt14 : ¬ (14 : Int32) ≤ nI p → p < 14 := by
    intro c
    rw [ks_14, ks_le (by decide) (by omega)] at c
    omega
  refine bX10_laysPieces_12 t4 (t1.r 32 50 (by decide)) (fun c => ?_) (fun c => vp_in_nI (lt14 c) (by decide)) (fun c => ?_)
  rotate_left
  · rw [nI_clamp (by omega), mm_up_up, nI_1]
    refine ih _ (lt14 c) fun i hi => ?_
    unfold upd
    by_cases e : i = p
    · rw [if_pos e]
    · rw [if_neg e]
      exact hI i (by omega)
  rw [ks_14, ks_le (by decide) (by omega)] at c
  obtain rfl : p = 14 := by omega
  have t5 : ∀ j, j ≠ 31 → j ≠ 50 → mm_up M1 50 (mm_aI 14 f) j = M j := fun j h1 h2 => by rw [mm_up_n h2, e2 j h1]
  generalize mm_up M1 50 (mm_aI 14 f) = M2 at t1 t4 t5 ⊢
  rw [show (4 : Int32) = nI 4 from rfl]
  refine fld (s := 4) (n := 7) (G := fun k (q : Nat × Nat × mm_Mem) => mm_X mX10_laysPieces 5 none (0, 0) 33 [.ref 31, .int (nI k), .null, .null] [] q.2.2 _) (v0 := (0, 0, M2)) (I := fun k q => (∃ fb, mo q.2.2 (mp_F F q.1 q.2.1) w ∧ mm_at q.2.2 50 (mm_aI 14 fb) ∧ ∀ p, p < 14 → fb p = nI (g_cn (fun R => g_pc n T R ∧ R.testBit p = true) n k 0)) ∧ q.1 = g_cn (g_pc n T) n k 0 ∧ g_lq (g_pc n T) n k 0 q.2.1 ∧ ∀ j, j ≠ 31 → j ≠ 50 → q.2.2 j = M j) (by decide) ⟨⟨f, t1, t4, fun p hp => ?_⟩, (g_cn_4 pc4).symm, Or.inl ⟨rfl, fun R hR hP => ?_⟩, t5⟩ ?_
  · rw [hI p hp, g_cn_4 (fun R q => pc4 R q.1)]
    rfl
  · have := hR.2
    have := pc4 R hP
    omega
  rintro k ⟨m, l, M3⟩ hk4 hk7 ⟨⟨fb, a1, a2, a3⟩, a4, a5, a6⟩ ihk
  dsimp only at a1 a2 a3 a4 a5 a6
  refine bX10_laysPieces_33 (fun c1 => ?_) (fun c1 => ?_)
  · rw [show (6 : Int32) = nI 6 from rfl, ks_ltI (by decide) (by omega)] at c1
    obtain rfl : k = 7 := by omega
    rw [g_cn_7 pc6] at a4
    subst a4
    refine ⟨rfl, ⟨l, fb, a1, a2, ?_, fun p hp => ?_⟩, a6⟩
    · rcases a5 with ⟨z1, z2⟩ | ⟨z1, z2, z3, z4⟩
      · exact Or.inl ⟨z1, fun S hS hP => z2 S ⟨hS, Or.inl (by have := pc6 S hP; omega)⟩ hP⟩
      · exact Or.inr ⟨z1, z2.1, z3, fun S hS hP => z4 S ⟨hS, Or.inl (by have := pc6 S hP; omega)⟩ hP⟩
    · rw [a3 p hp, g_cn_7 (fun R q => pc6 R q.1)]
      rfl
  rw [show (6 : Int32) = nI 6 from rfl, ks_ltI (by decide) (by omega)] at c1
  rw [show (1 : Int32) = nI 1 from rfl]
  refine fld (s := 1) (n := 2 ^ n) (G := fun S (q : Nat × Nat × mm_Mem) => mm_X mX10_laysPieces 5 none (0, 0) 41 [.ref 31, .int (nI k), .int (nI S), .null] [] q.2.2 _) (v0 := (m, l, M3)) (I := fun S q => (∃ fb, mo q.2.2 (mp_F F q.1 q.2.1) w ∧ mm_at q.2.2 50 (mm_aI 14 fb) ∧ ∀ p, p < 14 → fb p = nI (g_cn (fun R => g_pc n T R ∧ R.testBit p = true) n k S)) ∧ q.1 = g_cn (g_pc n T) n k S ∧ g_lq (g_pc n T) n k S q.2.1 ∧ ∀ j, j ≠ 31 → j ≠ 50 → q.2.2 j = M j) p0 ⟨⟨fb, a1, a2, fun p hp => by rw [g_cn_1 (by omega)]; exact a3 p hp⟩, by rw [g_cn_1 (by omega)]; exact a4, g_lq_n a5 fun q => ?_, a6⟩ ?_
  · have := pc4 0 q.1
    exact absurd this (by decide)
  rintro S ⟨m, l, M4⟩ hS1 hS ⟨⟨fb, b1, b2, b3⟩, b4, b5, b6⟩ ihS
  dsimp only at b1 b2 b3 b4 b5 b6
  have o4 : ra M4 33 n T := o.eq (b6 33 (by decide) (by decide))
  refine bX10_laysPieces_41 o4 (b1.r 10 33 (by decide)) (by decide) gk_in0 (fun c2 => ?_) (fun c2 => ?_)
  · rw [gk_0, ks_all n (by omega), ks_ltI (by omega) (by omega)] at c2
    obtain rfl : S = 2 ^ n := by omega
    rw [nI_1]
    refine ihk (m, l, M4) (by omega) ⟨⟨fb, b1, b2, fun p hp => by rw [g_cn_k]; exact b3 p hp⟩, by rw [g_cn_k]; exact b4, g_lq_c b5 fun R => ?_, b6⟩
    constructor
    · rintro ⟨q1, q2⟩
      exact ⟨q1, by omega⟩
    · rintro ⟨q1, q2⟩
      exact ⟨q1, by omega⟩
  rw [gk_0, ks_all n (by omega), ks_ltI (by omega) (by omega)] at c2
  have lS : S < 2 ^ n := by omega
  have pl := ks_pop_le S
  have no : ¬ (g_pc n T S ∧ ks_pop S = k) → mm_X mX10_laysPieces 5 none (0, 0) 41 [.ref 31, .int (nI k), .int (nI S + 1), .null] [] M4 (fun r M' => r = none ∧ (∃ least fb, mo M' (mp_F F (g_pcs n T) least) w ∧ mm_at M' 50 (mm_aI 14 fb) ∧ g_lp (g_pc n T) (2 ^ n) least ∧ ∀ p, p < 14 → fb p = nI (g_blm n T p)) ∧ ∀ j, j ≠ 31 → j ≠ 50 → M' j = M j) := by
    intro hno
    rw [nI_1]
    refine ihS (m, l, M4) lS ⟨⟨fb, b1, b2, fun p hp => ?_⟩, ?_, g_lq_n b5 hno, b6⟩
    · rw [g_cn_s, g1_f fun q => hno ⟨q.1.1, q.2⟩]
      exact b3 p hp
    · rw [g_cn_s, g1_f hno]
      exact b4
  refine mm_Call.eq (s_bits (by omega)) (by decide) (bX10_laysPieces_56 (b1.r 10 33 (by decide)) (fun c3 => ?_) (fun c3 => ?_))
  · rw [ks_eqI (by omega) (by omega)] at c3
    exact no fun q => c3 q.2
  rw [ks_eqI (by omega) (by omega)] at c3
  have f33 := b1.i 33 (by decide)
  have f34 := b1.i 34 (by decide)
  rw [show mp_F F m l 33 = nI m from by unfold mp_F; rw [pk_un (by decide), pk_us]] at f33
  rw [show mp_F F m l 34 = nI l from by unfold mp_F; rw [pk_us]] at f34
  have ll : l < 16384 := by
    rcases b5 with ⟨z, -⟩ | ⟨-, z, -⟩
    · omega
    · have := z.1
      omega
  have yes : ∀ l' M5, g_pc n T S → l' = (if l = 0 then S else l) → mo M5 (mp_F F (m + 1) l') w → (∀ j, j ≠ 31 → M5 j = M4 j) → mm_X mX10_laysPieces 5 none (0, 0) 98 [.ref 31, .int (nI k), .int (nI S), .int 0] [] M5 (fun r M' => r = none ∧ (∃ least fb, mo M' (mp_F F (g_pcs n T) least) w ∧ mm_at M' 50 (mm_aI 14 fb) ∧ g_lp (g_pc n T) (2 ^ n) least ∧ ∀ p, p < 14 → fb p = nI (g_blm n T p)) ∧ ∀ j, j ≠ 31 → j ≠ 50 → M' j = M j) := by
    intro l' M5 pc hl' d1 d2
    have d3 := b2.eq (d2 50 (by decide))
    rw [show M5 = mm_up M5 50 (mm_aI 14 fb) from (mm_up_id d3.2).symm]
    refine fld (s := 0) (G := fun p f => mm_X mX10_laysPieces 5 none (0, 0) 98 [.ref 31, .int (nI k), .int (nI S), .int (nI p)] [] (mm_up M5 50 (mm_aI 14 f)) _) (I := fun p f => ∀ i, f i = if i < p ∧ S.testBit i = true then fb i + 1 else fb i) (Nat.zero_le n) (fun i => by rw [if_neg (by omega)]) ?_
    intro p f _ hpn hI ih
    have u4 : mm_at (mm_up M5 50 (mm_aI 14 f)) 50 (mm_aI 14 f) := mm_at.s d3.1
    have u1 := d1.up (a := 50) (c := mm_aI 14 f) (by decide)
    have u6 : ∀ j, j ≠ 31 → j ≠ 50 → mm_up M5 50 (mm_aI 14 f) j = M j := fun j j1 j2 => by rw [mm_up_n j2, d2 j j1, b6 j j1 j2]
    have lt : ¬ gk_f n T (Int32.toNatClampNeg 0) ≤ nI p → p < n := by
      intro c
      rw [gk_0, ks_le (by omega) (by omega)] at c
      omega
    refine bX10_laysPieces_98 (o.eq (u6 33 (by decide) (by decide))) u4 (u1.r 10 33 (by decide)) (u1.r 32 50 (by decide)) (by decide) gk_in0 (fun c4 => ?_) (fun c4 c5 => ?_) (fun c4 _ => vp_in_nI (show p < 14 by have := lt c4; omega) (by decide)) (fun c4 _ => vp_in_nI (show p < 14 by have := lt c4; omega) (by decide)) (fun c4 c5 => ?_)
    · rw [gk_0, ks_le (by omega) (by omega)] at c4
      obtain rfl : p = n := by omega
      rw [nI_1]
      refine ihS (m + 1, l', _) lS ⟨⟨f, u1, u4, fun i hi => ?_⟩, ?_, ?_, u6⟩
      · rw [hI i, g_cn_s]
        by_cases e : S.testBit i = true
        · rw [if_pos ⟨ks_bit_lt lS e, e⟩, g1_t ⟨⟨pc, e⟩, c3⟩, b3 i hi, nI_1]
        · rw [if_neg fun q => e q.2, g1_f fun q => e q.1.2]
          exact b3 i hi
      · show m + 1 = _
        rw [g_cn_s, g1_t ⟨pc, c3⟩, b4]
      · show g_lq _ _ _ _ l'
        rw [hl']
        exact g_lq_y b5 lS (by omega) pc c3
    · have := lt c4
      rw [ks_mhas (by omega) (by omega), ks_b0] at c5
      rw [nI_1]
      refine ih f this fun i => ?_
      rw [hI i]
      by_cases e : i < p ∧ S.testBit i = true
      · rw [if_pos e, if_pos ⟨by omega, e.2⟩]
      · rw [if_neg e, if_neg]
        rintro ⟨e1, e2⟩
        rcases Nat.lt_or_ge i p with e3 | e3
        · exact e ⟨e3, e2⟩
        · obtain rfl : i = p := by omega
          exact c5 e2
    · have := lt c4
      rw [ks_mhas (by omega) (by omega), ks_b0, Classical.not_not] at c5
      rw [nI_1, nI_clamp (by omega), mm_up_up]
      refine ih _ this fun i => ?_
      unfold upd
      by_cases e : i = p
      · subst e
        rw [if_pos rfl, if_pos ⟨Nat.lt_succ_self i, c5⟩, hI i, if_neg (by omega)]
      · rw [if_neg e, hI i]
        by_cases e2 : i < p ∧ S.testBit i = true
        · rw [if_pos e2, if_pos ⟨by omega, e2.2⟩]
        · rw [if_neg e2, if_neg]
          rintro ⟨e3, e4⟩
          exact e2 ⟨by omega, e4⟩
  refine mm_Call.eq (s_isPiece o4 hw lS) (by decide) (bX10_laysPieces_68 f33 f34 (fun c4 c5 => ?_) (fun c4 c5 => ?_) (fun c4 => ?_))
  · rw [ks_b0, Classical.not_not] at c4
    rw [ks_eq0 (by omega)] at c5
    have g := b1.set 33 (nI m + 1) (by decide)
    rw [nI_1] at g ⊢
    rw [mp_F1] at g
    exact yes l _ ⟨⟨by omega, by omega⟩, c4⟩ (by rw [if_neg c5]) g fun j hj => mm_upF_n hj
  · rw [ks_b0, Classical.not_not] at c4
    rw [ks_eq0 (by omega)] at c5
    have g := (b1.set 33 (nI m + 1) (by decide)).set 34 (nI S) (by decide)
    rw [nI_1] at g ⊢
    rw [mp_F1, mp_F2] at g
    exact yes S _ ⟨⟨by omega, by omega⟩, c4⟩ (by rw [if_pos c5]) g fun j hj => by rw [mm_upF_n hj, mm_upF_n hj]
  · rw [ks_b0] at c4
    exact no fun q => c4 q.1.2
