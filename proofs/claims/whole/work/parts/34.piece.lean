/-! PIECES: what they are -/
theorem g_three_m {n A B : Nat} {T : Nat → Nat} (h : ks_sub A B) : g_three n T A → g_three n T B := by
  rintro ⟨a, b, e, h1, h2, h3, h4, h5, h6, h7⟩
  exact ⟨a, b, e, h1, h2, h3, h a h4, h b h5, h e h6, h7⟩
theorem g_cov_m {n A B : Nat} {T : Nat → Nat} (h : ks_sub A B) (hc : g_cov n T B) : g_cov n T A := by
  refine ⟨fun q => hc.1 ?_, fun q => hc.2 ?_⟩
  · obtain ⟨c, h1, h2, h3⟩ := q
    refine ⟨c, h1, h c h2, g_three_m (fun i hi => ?_) h3⟩
    rw [Nat.testBit_and, Bool.and_eq_true] at hi ⊢
    exact ⟨hi.1, h i hi.2⟩
  · obtain ⟨a, b, h1, h2, h3, h4, h5, t, u, h6, h7, h8, h9⟩ := q
    have tip : ∀ t, g_tip T A a b t → g_tip T B a b t := fun t ⟨q1, q2, q3, x, q4, q5⟩ => ⟨q1, q2, h t q3, x, h x q4, q5⟩
    exact ⟨a, b, h1, h2, h a h3, h b h4, h5, t, u, h6, tip t h7, tip u h8, h9⟩
theorem ks_pop4 {S a b c e : Nat} (hS : S < 16384) (ha : S.testBit a = true) (hb : S.testBit b = true) (hc : S.testBit c = true) (he : S.testBit e = true) (n1 : a ≠ b) (n2 : a ≠ c) (n3 : a ≠ e) (n4 : b ≠ c) (n5 : b ≠ e) (n6 : c ≠ e) : 4 ≤ ks_pop S := by
  have l1 := ks_nd_lt (a := 2 ^ a) hS
  have l2 := ks_nd_lt (a := 2 ^ b) l1
  have l3 := ks_nd_lt (a := 2 ^ c) l2
  have p1 := ks_pop_nd hS ha
  have p2 := ks_pop_nd (a := b) l1 (by rw [ks_nd1 hS, hb, decide_eq_false n1]; rfl)
  have p3 := ks_pop_nd (a := c) l2 (by rw [ks_nd1 l1, ks_nd1 hS, hc, decide_eq_false n2, decide_eq_false n4]; rfl)
  have p4 := ks_pop_nd (a := e) l3 (by rw [ks_nd1 l2, ks_nd1 l1, ks_nd1 hS, he, decide_eq_false n3, decide_eq_false n5, decide_eq_false n6]; rfl)
  omega
/-- three points always have a cover -/
theorem g_cov_3 {n S : Nat} {T : Nat → Nat} (hw : gw n T) (hS : S < 16384) (hp : ks_pop S ≤ 3) : g_cov n T S := by
  have ir := hw.2.2.2.2
  have sy := hw.2.2.2.1
  have ne : ∀ {a b}, (T a).testBit b = true → a ≠ b := fun h e => by
    subst e
    rw [ir] at h
    cases h
  constructor
  · rintro ⟨c, h1, h2, a, b, e, h3, h4, h5, h6, h7, h8, -⟩
    rw [Nat.testBit_and, Bool.and_eq_true] at h6 h7 h8
    have := ks_pop4 hS h2 h6.2 h7.2 h8.2 (ne h6.1) (ne h7.1) (ne h8.1) (by omega) (by omega) (by omega)
    omega
  · rintro ⟨a, b, h1, h2, h3, h4, h5, t, u, h6, ⟨q1, q2, q3, -⟩, ⟨r1, r2, r3, -⟩, h9⟩
    have := ks_pop4 hS h3 h4 q3 r3 (ne h5) (ne q1) (ne r1) (ne q2) (ne r2) h6
    omega
def g_pc (n : Nat) (T : Nat → Nat) (S : Nat) : Prop := (4 ≤ ks_pop S ∧ ks_pop S ≤ 6) ∧ ¬ g_cov n T S ∧ ∀ p, S.testBit p = true → g_cov n T (ks_nd S (2 ^ p))
noncomputable def g_pcs (n : Nat) (T : Nat → Nat) : Nat := gs (fun S => g1 (g_pc n T S)) (2 ^ n)
noncomputable def g_blm (n : Nat) (T : Nat → Nat) (p : Nat) : Nat := gs (fun S => g1 (g_pc n T S ∧ S.testBit p = true)) (2 ^ n)
def g_lp (P : Nat → Prop) (s v : Nat) : Prop := (v = 0 ∧ ∀ S, S < s → ¬ P S) ∨ (v ≠ 0 ∧ v < s ∧ P v ∧ ∀ S, S < s → P S → ks_pop v < ks_pop S ∨ (ks_pop v = ks_pop S ∧ v ≤ S))
theorem g_lp_u {P : Nat → Prop} {s v u : Nat} (h : g_lp P s v) (h' : g_lp P s u) : v = u := by
  rcases h with ⟨h1, h2⟩ | ⟨h1, h2, h3, h4⟩
  · rcases h' with ⟨k1, k2⟩ | ⟨k1, k2, k3, k4⟩
    · omega
    · exact absurd k3 (h2 u k2)
  · rcases h' with ⟨k1, k2⟩ | ⟨k1, k2, k3, k4⟩
    · exact absurd h3 (k2 v h2)
    · have := h4 u k2 k3
      have := k4 v h2 h3
      omega
theorem g_pc_0 {n : Nat} {T : Nat → Nat} (hc : g_cov n T (2 ^ n - 1)) : ∀ S, S < 2 ^ n → ¬ g_pc n T S := fun S hS h => h.2.1 (g_cov_m (fun i hi => by
  rw [Nat.testBit_two_pow_sub_one, decide_eq_true_eq]
  exact ks_bit_lt hS hi) hc)
/-! bits in a row of ints -/
def ks_cb (C : Nat → Int32) (S : Nat) : Prop := (C (S / 32)).toBitVec.toNat.testBit (S % 32) = true
theorem ks_31 (S : Nat) : nI S &&& (31 : Int32) = nI (S % 32) := by
  rw [show (31 : Int32) = nI (2 ^ 5 - 1) from rfl, nx_and, Nat.and_two_pow_sub_one_eq_mod]
theorem ks_sh5 {S : Nat} (h : S < 16384) : mm_shr (nI S) 5 = nI (S / 32) := by
  rw [show (5 : Int32) = nI 5 from rfl, ks_shrN (by omega) 5 (by decide), Nat.shiftRight_eq_div_pow]
theorem ks_shl32 : ∀ p, p < 32 → mm_shl 1 (nI p) = nI (2 ^ p) := by decide +kernel
theorem ks_ushr32 : ∀ p, p < 32 → (((nI p).toUInt32 &&& Int32.toUInt32 31).toBitVec % 32).toNat = p := by decide +kernel
theorem ks_cb_get {C : Nat → Int32} {S : Nat} (h : S < 16384) : (mm_ushr (qX9_at (mm_shr (nI S) 5) 512 C) (nI S &&& 31) &&& 1) = 0 ↔ ¬ ks_cb C S := by
  rw [ks_sh5 h, ks_at (by decide) (by omega), ks_31, pk_and _ (m := 1) 1 rfl]
  unfold mm_ushr
  rw [pk_ushr _ _ (S % 32) (ks_ushr32 _ (by omega)), ks_eq0 (by omega)]
  unfold ks_cb
  rw [Nat.testBit_eq_decide_div_mod_eq, decide_eq_true_eq]
  generalize (C (S / 32)).toBitVec.toNat / 2 ^ (S % 32) = z
  omega
def ks_cset (C : Nat → Int32) (S : Nat) : Nat → Int32 := upd C (S / 32) (C (S / 32) ||| nI (2 ^ (S % 32)))
theorem ks_cb_put {C : Nat → Int32} {S : Nat} (h : S < 16384) : qX9_put (mm_shr (nI S) 5) (qX9_at (mm_shr (nI S) 5) 512 C ||| mm_shl 1 (nI S &&& 31)) 512 C = ks_cset C S := by
  rw [ks_sh5 h, ks_at (by decide) (by omega), ks_put (by decide) (by omega), ks_31, ks_shl32 _ (by omega)]
  rfl
theorem ks_cb_set {C : Nat → Int32} {S R : Nat} : ks_cb (ks_cset C S) R ↔ (R = S ∨ ks_cb C R) := by
  have hp : 2 ^ (S % 32) < 2 ^ 32 := Nat.pow_lt_pow_right (by decide) (by omega)
  unfold ks_cb ks_cset
  by_cases e : R / 32 = S / 32
  · rw [e, pk_us, Int32.toBitVec_or, BitVec.toNat_or, pk_tn hp, Nat.testBit_or, ks_p2, Bool.or_eq_true, decide_eq_true_eq]
    constructor
    · rintro (h | h)
      · exact Or.inr h
      · exact Or.inl (by omega)
    · rintro (h | h)
      · exact Or.inr (by omega)
      · exact Or.inl h
  · rw [pk_un e]
    constructor
    · exact Or.inr
    · rintro (h | h)
      · exact absurd (by rw [h]) e
      · exact h
/-! the class's proof -/
def px (M : mm_Mem) (n : Nat) (T : Nat → Nat) (many least : Nat) (fb C : Nat → Int32) : Prop := mm_at M 16 (mm_aO 5 [.ref 17, .ref 19, .ref 20, .int (nI many), .int (nI least)]) ∧ na M 17 n T ∧ mm_at M 19 (mm_aI 512 C) ∧ mm_at M 20 (mm_aI 14 fb)
def pxs (M : mm_Mem) (n : Nat) (T : Nat → Nat) (s : Nat) : Prop := ∃ least fb C, px M n T (gs (fun S => g1 (g_pc n T S)) s) least fb C ∧ g_lp (g_pc n T) s least ∧ (∀ p, p < 14 → fb p = nI (gs (fun S => g1 (g_pc n T S ∧ S.testBit p = true)) s)) ∧ ∀ S, S < 16384 → (ks_cb C S ↔ (S < s ∧ (4 ≤ ks_pop S ∧ ks_pop S ≤ 6) ∧ ¬ g_cov n T S))
theorem ks_nd_lt' {S p : Nat} (hS : S < 16384) (h : S.testBit p = true) : ks_nd S (2 ^ p) < S := by
  have := ks_pop_nd hS h
  have h2 := ks_nd_le S (2 ^ p)
  rcases Nat.lt_or_ge (ks_nd S (2 ^ p)) S with q | q
  · exact q
  · have e : ks_nd S (2 ^ p) = S := by omega
    rw [e] at this
    omega
theorem s_within {M : mm_Mem} {n S : Nat} {T : Nat → Nat} (h : pxs M n T S) (hw : gw n T) (hS : S < 2 ^ n) (hp : 4 ≤ ks_pop S ∧ ks_pop S ≤ 6) : mm_S 1 mX5_hasCoverlessWithin 0 0 [.ref 16, .int (nI S)] M (mm_Eq (some (.int (ks_b (∃ p, S.testBit p = true ∧ ¬ g_cov n T (ks_nd S (2 ^ p)))))) M) := by
  have hn := hw.1
  have hS' := ks_p14 hn hS
  obtain ⟨least, fb, C, ⟨p1, p2, p3, p4⟩, -, -, hC⟩ := h
  refine mm_S.of rfl rfl (Nat.le_of_ble_eq_true rfl) mm_ndi (bX5_hasCoverlessWithin_0 ?_)
  refine srch (G := fun j => mm_X mX5_hasCoverlessWithin 1 none (0, 0) 2 [.ref 16, .int (nI S), .int (nI j), .null] [] M _) (P := fun p => S.testBit p = true ∧ ¬ g_cov n T (ks_nd S (2 ^ p))) (Nat.zero_le n) ?_
  intro p _ hpn hI ih
  refine bX5_hasCoverlessWithin_2 p1 p2.1 p3 (by decide) (fun c => ⟨?_, rfl⟩) (fun c c1 => ?_) (fun c c1 c2 => ?_) (fun c c1 c2 => ⟨?_, rfl⟩)
  · simp (disch := omega) only [ks_le, ks_ltI, ks_eqI, ks_eq0, ks_le14, ks_has, ks_mhas, ks_at, ks_b0, gk_0, gk_1, ks_andn, nx_and, nx_or, nx_xor, ks_shl1, ks_shl2, Classical.not_not, nI_1] at c
    rw [ks_bf]
    rintro ⟨q, h1, h2⟩
    have := ks_bit_lt hS h1
    exact hI q (Nat.zero_le q) (by omega) ⟨h1, h2⟩
  · simp (disch := omega) only [ks_le, ks_ltI, ks_eqI, ks_eq0, ks_le14, ks_has, ks_mhas, ks_at, ks_b0, gk_0, gk_1, ks_andn, nx_and, nx_or, nx_xor, ks_shl1, ks_shl2, Classical.not_not, nI_1] at c
    rw [ks_has (by omega) (by omega), ks_b0] at c1
    rw [nI_1]
    exact ih (by omega) fun h => c1 h.1
  all_goals
    simp (disch := omega) only [ks_le, ks_ltI, ks_eqI, ks_eq0, ks_le14, ks_has, ks_mhas, ks_at, ks_b0, gk_0, gk_1, ks_andn, nx_and, nx_or, nx_xor, ks_shl1, ks_shl2, Classical.not_not, nI_1] at c
    rw [ks_has (by omega) (by omega), ks_b0, Classical.not_not] at c1
    have l1 := ks_nd_lt (a := 2 ^ p) hS'
    have pp := ks_pop_nd hS' c1
    rw [ks_shl1 _ (by omega), ks_andn, ks_cb_get l1, hC _ l1] at c2
  · rw [nI_1]
    refine ih (by omega) fun h => c2 ⟨ks_nd_lt' hS' c1, ⟨?_, by omega⟩, h.2⟩
    rcases Nat.lt_or_ge 3 (ks_pop (ks_nd S (2 ^ p))) with q | q
    · exact q
    · exact absurd (g_cov_3 hw l1 q) h.2
  · rw [Classical.not_not] at c2
    rw [ks_bt ⟨p, c1, c2.2.2⟩]
theorem s_note {M : mm_Mem} {n S least : Nat} {T : Nat → Nat} {fb C : Nat → Int32} {many : Nat} (h : px M n T many least fb C) (hw : gw n T) (hS : S < 2 ^ n) (hp : g_pc n T S) (hl : g_lp (g_pc n T) S least) : mm_S 1 mX5_note 0 0 [.ref 16, .int (nI S), .int (nI (ks_pop S))] M (fun r M' => r = none ∧ (∃ least' fb', px M' n T (many + 1) least' fb' C ∧ g_lp (g_pc n T) (S + 1) least' ∧ ∀ p, p < 14 → fb' p = if S.testBit p = true then fb p + 1 else fb p) ∧ ∀ j, j ≠ 16 → j ≠ 20 → M' j = M j) := by
  have hn := hw.1
  have hS' := ks_p14 hn hS
  obtain ⟨p1, p2, p3, p4⟩ := h
  have ll : least < 16384 := by
    rcases hl with ⟨h, -⟩ | ⟨-, h, -⟩ <;> omega
  have q1 := ks_pop_le least
  have q2 := ks_pop_le S
  have S0 : S ≠ 0 := fun e => by
    subst e
    have := hp.1.1
    exact absurd this (by decide)
  have loop : ∀ least', g_lp (g_pc n T) (S + 1) least' → mm_X mX5_note 1 none (0, 0) 35 [.ref 16, .int (nI S), .null, .int 0] [] (mm_up M 16 (mm_aO 5 [.ref 17, .ref 19, .ref 20, .int (nI many + 1), .int (nI least')])) (fun r M' => r = none ∧ (∃ least' fb', px M' n T (many + 1) least' fb' C ∧ g_lp (g_pc n T) (S + 1) least' ∧ ∀ p, p < 14 → fb' p = if S.testBit p = true then fb p + 1 else fb p) ∧ ∀ j, j ≠ 16 → j ≠ 20 → M' j = M j) := by
    intro least' hl'
    rw [nI_1]
    have s1 : mm_at (mm_up M 16 (mm_aO 5 [.ref 17, .ref 19, .ref 20, .int (nI (many + 1)), .int (nI least')])) 16 (mm_aO 5 [.ref 17, .ref 19, .ref 20, .int (nI (many + 1)), .int (nI least')]) := mm_at.s p1.1
    have s2 : na (mm_up M 16 (mm_aO 5 [.ref 17, .ref 19, .ref 20, .int (nI (many + 1)), .int (nI least')])) 17 n T := p2.eq (mm_up_n (by decide)) (mm_up_n (by decide))
    have s3 := p3.n (a := 16) (c' := mm_aO 5 [.ref 17, .ref 19, .ref 20, .int (nI (many + 1)), .int (nI least')]) (by decide)
    have s4 := p4.n (a := 16) (c' := mm_aO 5 [.ref 17, .ref 19, .ref 20, .int (nI (many + 1)), .int (nI least')]) (by decide)
    have s5 : ∀ j, j ≠ 16 → (mm_up M 16 (mm_aO 5 [.ref 17, .ref 19, .ref 20, .int (nI (many + 1)), .int (nI least')])) j = M j := fun j hj => mm_up_n hj
    generalize mm_up M 16 (mm_aO 5 [.ref 17, .ref 19, .ref 20, .int (nI (many + 1)), .int (nI least')]) = M1 at s1 s2 s3 s4 s5 ⊢
    rw [show M1 = mm_up M1 20 (mm_aI 14 fb) from (mm_up_id s4.2).symm]
    refine fld (s := 0) (G := fun p f => mm_X mX5_note 1 none (0, 0) 35 [.ref 16, .int (nI S), .null, .int (nI p)] [] (mm_up M1 20 (mm_aI 14 f)) _) (I := fun p f => ∀ i, f i = if i < p ∧ S.testBit i = true then fb i + 1 else fb i) (Nat.zero_le n) (fun i => by rw [if_neg (by omega)]) ?_
    intro p f _ hpn hI ih
    have t4 : mm_at (mm_up M1 20 (mm_aI 14 f)) 20 (mm_aI 14 f) := mm_at.s p4.1
    have t2 : na (mm_up M1 20 (mm_aI 14 f)) 17 n T := s2.eq (mm_up_n (by decide)) (mm_up_n (by decide))
    refine bX5_note_35 (s1.n (by decide)) t2.1 t4 (by decide) (fun c => ⟨rfl, ⟨least', f, ⟨s1.n (by decide), t2, s3.n (by decide), t4⟩, hl', fun i hi => ?_⟩, fun j j1 j2 => by rw [mm_up_n j2, s5 j j1]⟩) (fun c c1 => ?_) (fun c c1 => ?_)
    · simp (disch := omega) only [ks_le, ks_ltI, ks_eqI, ks_eq0, ks_le14, ks_has, ks_mhas, ks_at, ks_b0, gk_0, gk_1, ks_andn, nx_and, nx_or, nx_xor, ks_shl1, ks_shl2, Classical.not_not, nI_1] at c
      obtain rfl : p = n := by omega
      rw [hI i]
      by_cases e : S.testBit i = true
      · rw [if_pos ⟨ks_bit_lt hS e, e⟩, if_pos e]
      · rw [if_neg (fun h => e h.2), if_neg e]
    · simp (disch := omega) only [ks_le, ks_ltI, ks_eqI, ks_eq0, ks_le14, ks_has, ks_mhas, ks_at, ks_b0, gk_0, gk_1, ks_andn, nx_and, nx_or, nx_xor, ks_shl1, ks_shl2, Classical.not_not, nI_1] at c
      rw [ks_has (by omega) (by omega), ks_b0] at c1
      rw [nI_1]
      refine ih f (by omega) fun i => ?_
      rw [hI i]
      by_cases e : i < p ∧ S.testBit i = true
      · rw [if_pos e, if_pos ⟨by omega, e.2⟩]
      · rw [if_neg e, if_neg]
        rintro ⟨e1, e2⟩
        rcases Nat.lt_or_ge i p with e3 | e3
        · exact e ⟨e3, e2⟩
        · obtain rfl : i = p := by omega
          exact c1 e2
    · simp (disch := omega) only [ks_le, ks_ltI, ks_eqI, ks_eq0, ks_le14, ks_has, ks_mhas, ks_at, ks_b0, gk_0, gk_1, ks_andn, nx_and, nx_or, nx_xor, ks_shl1, ks_shl2, Classical.not_not, nI_1] at c
      rw [ks_has (by omega) (by omega), ks_b0, Classical.not_not] at c1
      rw [nI_1, ks_at (by decide) (by omega), ks_put (by decide) (by omega), mm_up_up]
      refine ih _ (by omega) fun i => ?_
      unfold upd
      by_cases e : i = p
      · subst e
        rw [if_pos rfl, if_pos ⟨Nat.lt_succ_self i, c1⟩, hI i, if_neg (by omega)]
      · rw [if_neg e, hI i]
        by_cases e2 : i < p ∧ S.testBit i = true
        · rw [if_pos e2, if_pos ⟨by omega, e2.2⟩]
        · rw [if_neg e2, if_neg]
          rintro ⟨e3, e4⟩
          exact e2 ⟨by omega, e4⟩
  refine mm_S.of rfl rfl (Nat.le_of_ble_eq_true rfl) (fun r M' h x e => by rw [h.1] at e; cases e) (bX5_note_0 p1 (by decide) (fun c => ?_) (fun c c1 => ?_) (fun c c1 => ?_))
  · rw [ks_eq0 (by omega)] at c
    refine loop S (Or.inr ⟨S0, by omega, hp, fun R hR h => ?_⟩)
    rcases hl with ⟨-, z⟩ | ⟨z, -⟩
    · rcases Nat.lt_or_ge R S with e | e
      · exact absurd h (z R e)
      · obtain rfl : R = S := by omega
        exact Or.inr ⟨rfl, Nat.le_refl _⟩
    · exact absurd c z
  all_goals
    rw [ks_eq0 (by omega)] at c
    rw [ks_cnt ll, ks_le (by omega) (by omega)] at c1
    rcases hl with ⟨z, -⟩ | ⟨z1, z2, z3, z4⟩
    · exact absurd z c
  · refine loop least (Or.inr ⟨z1, by omega, z3, fun R hR h => ?_⟩)
    rcases Nat.lt_or_ge R S with e | e
    · exact z4 R e h
    · obtain rfl : R = S := by omega
      omega
  · refine loop S (Or.inr ⟨S0, by omega, hp, fun R hR h => ?_⟩)
    rcases Nat.lt_or_ge R S with e | e
    · have := z4 R e h
      omega
    · obtain rfl : R = S := by omega
      omega
theorem pxs_skip {M : mm_Mem} {n S : Nat} {T : Nat → Nat} (h : pxs M n T S) (hp : ¬ ((4 ≤ ks_pop S ∧ ks_pop S ≤ 6) ∧ ¬ g_cov n T S)) : pxs M n T (S + 1) := by
  obtain ⟨least, fb, C, h1, h2, h3, h4⟩ := h
  have np : ¬ g_pc n T S := fun q => hp ⟨q.1, q.2.1⟩
  refine ⟨least, fb, C, ?_, ?_, fun p hp' => ?_, fun R hR => ?_⟩
  · show px M n T (gs _ S + g1 (g_pc n T S)) least fb C
    rw [g1_f np]
    exact h1
  · rcases h2 with ⟨z1, z2⟩ | ⟨z1, z2, z3, z4⟩
    · refine Or.inl ⟨z1, fun R hR => ?_⟩
      rcases Nat.lt_or_ge R S with e | e
      · exact z2 R e
      · obtain rfl : R = S := by omega
        exact np
    · refine Or.inr ⟨z1, by omega, z3, fun R hR hh => ?_⟩
      rcases Nat.lt_or_ge R S with e | e
      · exact z4 R e hh
      · obtain rfl : R = S := by omega
        exact absurd hh np
  · rw [h3 p hp']
    show _ = nI (gs _ S + g1 (g_pc n T S ∧ S.testBit p = true))
    rw [g1_f fun q => np q.1]
    rfl
  · rw [h4 R hR]
    constructor
    · rintro ⟨a, b⟩
      exact ⟨by omega, b⟩
    · rintro ⟨a, b⟩
      rcases Nat.lt_or_ge R S with e | e
      · exact ⟨e, b⟩
      · obtain rfl : R = S := by omega
        exact absurd b hp
theorem s_weigh {M : mm_Mem} {n S : Nat} {T : Nat → Nat} (h : pxs M n T S) (hw : gw n T) (hS : S < 2 ^ n) (hp : 4 ≤ ks_pop S ∧ ks_pop S ≤ 6) : mm_S 4 mX5_weigh 0 0 [.ref 16, .int (nI S), .int (nI (ks_pop S))] M (fun r M' => r = none ∧ pxs M' n T (S + 1) ∧ ∀ j, j ≠ 16 → j ≠ 19 → j ≠ 20 → M' j = M j) := by
  have hn := hw.1
  have hS' := ks_p14 hn hS
  have h0 := h
  obtain ⟨least, fb, C, ⟨p1, p2, p3, p4⟩, hl, hf, hC⟩ := h
  -- what is told when the set has no cover
  have cs : ∀ R, R < 16384 → ¬ g_cov n T S → (ks_cb (ks_cset C S) R ↔ (R < S + 1 ∧ (4 ≤ ks_pop R ∧ ks_pop R ≤ 6) ∧ ¬ g_cov n T R)) := by
    intro R hR nc
    rw [ks_cb_set, hC R hR]
    constructor
    · rintro (rfl | ⟨a, b⟩)
      · exact ⟨Nat.lt_succ_self _, hp, nc⟩
      · exact ⟨by omega, b⟩
    · rintro ⟨a, b⟩
      rcases Nat.lt_or_ge R S with e | e
      · exact Or.inr ⟨e, b⟩
      · exact Or.inl (by omega)
  have q : ∀ C', mm_at (mm_up M 19 (mm_aI 512 C')) 19 (mm_aI 512 C') := fun C' => mm_at.s p3.1
  have mark : ¬ g_cov n T S → (∃ p, S.testBit p = true ∧ ¬ g_cov n T (ks_nd S (2 ^ p))) → pxs (mm_up M 19 (mm_aI 512 (ks_cset C S))) n T (S + 1) := by
    rintro nc ⟨p, e1, e2⟩
    have np : ¬ g_pc n T S := fun q => e2 (q.2.2 p e1)
    refine ⟨least, fb, ks_cset C S, ?_, ?_, fun p hp' => ?_, fun R hR => cs R hR nc⟩
    · show px _ n T (gs _ S + g1 (g_pc n T S)) least fb _
      rw [g1_f np]
      exact ⟨p1.n (a := 19) (by decide), p2.eq (mm_up_n (by decide)) (mm_up_n (by decide)), q _, p4.n (a := 19) (by decide)⟩
    · rcases hl with ⟨z1, z2⟩ | ⟨z1, z2, z3, z4⟩
      · refine Or.inl ⟨z1, fun R hR => ?_⟩
        rcases Nat.lt_or_ge R S with e | e
        · exact z2 R e
        · obtain rfl : R = S := by omega
          exact np
      · refine Or.inr ⟨z1, by omega, z3, fun R hR hh => ?_⟩
        rcases Nat.lt_or_ge R S with e | e
        · exact z4 R e hh
        · obtain rfl : R = S := by omega
          exact absurd hh np
    · rw [hf p hp']
      show _ = nI (gs _ S + g1 (g_pc n T S ∧ S.testBit p = true))
      rw [g1_f fun q => np q.1]
      rfl
  refine mm_S.of rfl rfl (Nat.le_of_ble_eq_true rfl) (fun r M' h x e => by rw [h.1] at e; cases e) (bX5_weigh_0 p1 (mm_Call.eq (s_within h0 hw hS hp) (by decide) (bX5_weigh_5 p1 p3 p2.1 (by decide) (by decide) (fun c _ => ?_) (fun c c' => absurd c' c) (fun c => ?_))))
  · rw [ks_b0, Classical.not_not] at c
    rw [ks_cb_put hS']
    obtain ⟨p, e1, e2⟩ := id c
    refine bX5_weigh_59 ⟨rfl, mark (fun hc => e2 (g_cov_m (fun i hi => ?_) hc)) c, fun j _ j2 _ => mm_up_n j2⟩
    rw [ks_nd1 hS', Bool.and_eq_true] at hi
    exact hi.1
  · have cw := c
    rw [ks_b0] at c
    refine mm_Call.eq (s_hasCover p2 hw hS) (by decide) (bX5_weigh_18 p1 p3 (by decide) (by decide) (fun _ c' => absurd cw c') (fun c1 _ => ?_) (fun c1 => ⟨rfl, ?_, fun _ _ _ _ => rfl⟩))
    · rw [ks_b0] at c1
      have pc : g_pc n T S := ⟨hp, c1, fun p hb => Classical.byContradiction fun h => c ⟨p, hb, h⟩⟩
      rw [ks_cb_put hS']
      refine mm_Call.of (s_note (least := least) (fb := fb) (C := ks_cset C S) (many := gs (fun S => g1 (g_pc n T S)) S) ⟨p1.n (by decide), p2.eq (mm_up_n (by decide)) (mm_up_n (by decide)), q _, p4.n (by decide)⟩ hw hS pc hl) (by decide) ?_
      rintro _ M2 ⟨rfl, ⟨least', fb', k1, k2, k3⟩, k4⟩
      refine bX5_weigh_59 ⟨rfl, ⟨least', fb', ks_cset C S, ?_, k2, fun p hp' => ?_, fun R hR => cs R hR c1⟩, fun j j1 j2 j3 => by rw [k4 j j1 j3, mm_up_n j2]⟩
      · show px M2 n T (gs _ S + g1 (g_pc n T S)) least' fb' (ks_cset C S)
        rw [g1_t pc]
        exact k1
      · rw [k3 p hp', hf p hp']
        show _ = nI (gs _ S + g1 (g_pc n T S ∧ S.testBit p = true))
        by_cases e : S.testBit p = true
        · rw [if_pos e, g1_t ⟨pc, e⟩, nI_1]
        · rw [if_neg e, g1_f fun q => e q.2]
          rfl
    · rw [ks_b0, Classical.not_not] at c1
      exact pxs_skip h0 fun q => q.2 c1
/-- the class's proof as it stands between calls -/
def pvw (M : mm_Mem) (n : Nat) (T : Nat → Nat) : Prop := ∃ least fb C, px M n T (g_pcs n T) least fb C ∧ g_lp (g_pc n T) (2 ^ n) least ∧ ∀ p, p < 14 → fb p = nI (g_blm n T p)
def pv (M : mm_Mem) : Prop := ∃ n T, gw n T ∧ pvw M n T
theorem pvw.eq {M M' : mm_Mem} {n : Nat} {T : Nat → Nat} (h : pvw M n T) (e : ∀ j, 16 ≤ j → j ≤ 20 → M' j = M j) : pvw M' n T := by
  obtain ⟨least, fb, C, ⟨h1, h2, h3, h4⟩, h5⟩ := h
  exact ⟨least, fb, C, ⟨h1.eq (e 16 (by decide) (by decide)), h2.eq (e 17 (by decide) (by decide)) (e 18 (by decide) (by decide)), h3.eq (e 19 (by decide) (by decide)), h4.eq (e 20 (by decide) (by decide))⟩, h5⟩
theorem pv.eq {M M' : mm_Mem} (h : pv M) (e : ∀ j, 16 ≤ j → j ≤ 20 → M' j = M j) : pv M' := by
  obtain ⟨n, T, h1, h2⟩ := h
  exact ⟨n, T, h1, h2.eq e⟩
theorem s_forgetP {M : mm_Mem} {n many least : Nat} {T : Nat → Nat} {fb C : Nat → Int32} (h : px M n T many least fb C) : mm_S 1 mX5_forget 0 0 [.ref 16] M (fun r M' => r = none ∧ (∃ fb C, px M' n T 0 0 fb C ∧ (∀ p, p < 14 → fb p = 0) ∧ ∀ S, S < 16384 → ¬ ks_cb C S) ∧ ∀ j, j ≠ 16 → j ≠ 19 → j ≠ 20 → M' j = M j) := by
  obtain ⟨p1, p2, p3, p4⟩ := h
  refine mm_S.of rfl rfl (Nat.le_of_ble_eq_true rfl) (fun r M' h x e => by rw [h.1] at e; cases e) (bX5_forget_0 p1 ?_)
  rw [show (0 : Int32) = nI 0 from rfl]
  have s1 : mm_at (mm_up M 16 (mm_aO 5 [.ref 17, .ref 19, .ref 20, .int (nI 0), .int (nI 0)])) 16 (mm_aO 5 [.ref 17, .ref 19, .ref 20, .int (nI 0), .int (nI 0)]) := mm_at.s p1.1
  have s2 : na (mm_up M 16 (mm_aO 5 [.ref 17, .ref 19, .ref 20, .int (nI 0), .int (nI 0)])) 17 n T := p2.eq (mm_up_n (by decide)) (mm_up_n (by decide))
  have s3 := p3.n (a := 16) (c' := mm_aO 5 [.ref 17, .ref 19, .ref 20, .int (nI 0), .int (nI 0)]) (by decide)
  have s4 := p4.n (a := 16) (c' := mm_aO 5 [.ref 17, .ref 19, .ref 20, .int (nI 0), .int (nI 0)]) (by decide)
  have s5 : ∀ j, j ≠ 16 → (mm_up M 16 (mm_aO 5 [.ref 17, .ref 19, .ref 20, .int (nI 0), .int (nI 0)])) j = M j := fun j hj => mm_up_n hj
  generalize mm_up M 16 (mm_aO 5 [.ref 17, .ref 19, .ref 20, .int (nI 0), .int (nI 0)]) = M1 at s1 s2 s3 s4 s5 ⊢
  rw [show M1 = mm_up M1 20 (mm_aI 14 fb) from (mm_up_id s4.2).symm]
  refine fld (s := 0) (n := 14) (G := fun p f => mm_X mX5_forget 1 none (0, 0) 12 [.ref 16, .int (nI p)] [] (mm_up M1 20 (mm_aI 14 f)) _) (I := fun p f => ∀ i, i < p → f i = 0) (Nat.zero_le 14) (fun i h => absurd h (Nat.not_lt_zero i)) ?_
  intro p f _ hp hI ih
  have t4 : mm_at (mm_up M1 20 (mm_aI 14 f)) 20 (mm_aI 14 f) := mm_at.s p4.1
  refine bX5_forget_12 (s1.n (by decide)) t4 (by decide) (fun c => ?_) (fun c => ?_)
  · rw [ks_14, ks_le (by decide) (by omega)] at c
    obtain rfl : p = 14 := by omega
    have t3 := s3.n (a := 20) (c' := mm_aI 14 f) (by decide)
    have t2 : na (mm_up M1 20 (mm_aI 14 f)) 17 n T := s2.eq (mm_up_n (by decide)) (mm_up_n (by decide))
    have t1 := s1.n (a := 20) (c' := mm_aI 14 f) (by decide)
    have t5 : ∀ j, j ≠ 16 → j ≠ 20 → mm_up M1 20 (mm_aI 14 f) j = M j := fun j h1 h2 => by rw [mm_up_n h2, s5 j h1]
    generalize mm_up M1 20 (mm_aI 14 f) = M2 at t1 t2 t3 t4 t5 ⊢
    rw [show M2 = mm_up M2 19 (mm_aI 512 C) from (mm_up_id t3.2).symm]
    refine fld (s := 0) (n := 512) (G := fun p C => mm_X mX5_forget 1 none (0, 0) 35 [.ref 16, .int (nI p)] [] (mm_up M2 19 (mm_aI 512 C)) _) (I := fun p C => ∀ i, i < p → C i = 0) (Nat.zero_le 512) (fun i h => absurd h (Nat.not_lt_zero i)) ?_
    intro q D _ hq hJ ih2
    have u3 : mm_at (mm_up M2 19 (mm_aI 512 D)) 19 (mm_aI 512 D) := mm_at.s p3.1
    have lt : ¬ Int32.ofNat 512 ≤ nI q → q < 512 := by
      intro h
      rw [show Int32.ofNat 512 = nI 512 from rfl, ks_le (by decide) (by omega)] at h
      omega
    refine bX5_forget_35 (t1.n (by decide)) u3 (fun c2 => ⟨rfl, ⟨f, D, ⟨t1.n (by decide), t2.eq (mm_up_n (by decide)) (mm_up_n (by decide)), u3, t4.n (by decide)⟩, hI, fun S hS => ?_⟩, fun j j1 j2 j3 => by rw [mm_up_n j2, t5 j j1 j3]⟩) (fun c2 => vp_in_nI (lt c2) (by decide)) (fun c2 => ?_)
    · rw [show Int32.ofNat 512 = nI 512 from rfl, ks_le (by decide) (by omega)] at c2
      unfold ks_cb
      rw [hJ (S / 32) (by omega), show (0 : Int32).toBitVec.toNat = 0 from rfl, Nat.zero_testBit]
      decide
    · rw [nI_clamp (by omega), mm_up_up, nI_1]
      refine ih2 _ (lt c2) fun i hi => ?_
      unfold upd
      by_cases e : i = q
      · rw [if_pos e]
      · rw [if_neg e]
        exact hJ i (by omega)
  · rw [ks_14, ks_le (by decide) (by omega)] at c
    rw [ks_put (by decide) (by omega), mm_up_up, nI_1]
    refine ih _ (by omega) fun i hi => ?_
    unfold upd
    by_cases e : i = p
    · rw [if_pos e]
    · rw [if_neg e]
      exact hI i (by omega)
theorem s_lookP {M : mm_Mem} {n : Nat} {T : Nat → Nat} (h : pv M) (o : na M 1 n T) (hw : gw n T) : mm_S 5 mX5_look 0 0 [.ref 16, .ref 1] M (fun r M' => r = none ∧ pvw M' n T ∧ ∀ j, j < 16 ∨ 20 < j → M' j = M j) := by
  have hn := hw.1
  obtain ⟨n0, T0, hw0, least, fb, C, ⟨p1, p2, p3, p4⟩, h5⟩ := h
  refine mm_S.of rfl rfl (Nat.le_of_ble_eq_true rfl) (fun r M' h x e => by rw [h.1] at e; cases e) (bX5_look_0 p1 p2.1 (mm_Call.eq (s_equalTo p2 o hw0 hw) (by decide) (bX5_look_8 p1 p2.1 (fun c => ?_) (fun c => ⟨rfl, ?_, fun _ _ => rfl⟩))))
  · refine mm_Call.eq (s_copyN p2 o hw0 hw (by decide) (by decide) (by decide)) (by decide) ?_
    have s2 := mm_net_na (M := M) (k := 17) (n := n) (T := T) (by decide)
    have s5 : ∀ j, j ≠ 17 → j ≠ 18 → mm_net M 17 n T j = M j := fun j h1 h2 => mm_net_n h1 h2
    have s1 := p1.eq (s5 16 (by decide) (by decide))
    have s3 := p3.eq (s5 19 (by decide) (by decide))
    have s4 := p4.eq (s5 20 (by decide) (by decide))
    have so := o.eq (s5 1 (by decide) (by decide)) (s5 2 (by decide) (by decide))
    generalize mm_net M 17 n T = M1 at s1 s2 s3 s4 s5 so ⊢
    refine bX5_look_20 s1 (mm_Call.of (s_forgetP ⟨s1, s2, s3, s4⟩) (by decide) ?_)
    rintro _ M2 ⟨rfl, ⟨fb', C', hx, hf, hc⟩, hM⟩
    have to := so.eq (hM 1 (by decide) (by decide) (by decide)) (hM 2 (by decide) (by decide) (by decide))
    have t5 : ∀ j, j < 16 ∨ 20 < j → M2 j = M j := fun j hj => by rw [hM j (by omega) (by omega) (by omega), s5 j (by omega) (by omega)]
    refine bX5_look_24 to.1 (by decide) ?_
    rw [ks_all n (by omega)]
    refine mm_Call.eq (s_hasCover to hw (ks_am n)) (by decide) (bX5_look_32 (fun c1 => ?_) (fun c1 => ⟨rfl, ?_, t5⟩))
    · have start : pxs M2 n T 0 := ⟨0, fb', C', hx, Or.inl ⟨rfl, fun S h => absurd h (Nat.not_lt_zero S)⟩, hf, fun S hS => ⟨fun q => absurd q (hc S hS), fun q => absurd q.1 (Nat.not_lt_zero S)⟩⟩
      have hm : 2 ^ n ≤ 16384 := Nat.pow_le_pow_right (n := 2) (by decide) hn
      refine fld (s := 0) (n := 2 ^ n) (G := fun S (M' : mm_Mem) => mm_X mX5_look 5 none (0, 0) 38 [.ref 16, .ref 1, .int (nI S), .null] [] M' _) (v0 := M2) (I := fun S M' => pxs M' n T S ∧ ∀ j, j < 16 ∨ 20 < j → M' j = M j) (Nat.zero_le _) ⟨start, t5⟩ ?_
      rintro S M3 _ hS ⟨hp3, h3⟩ ih
      have o3 : na M3 1 n T := o.eq (h3 1 (by decide)) (h3 2 (by decide))
      obtain ⟨l3, f3, C3, hx3, hr3⟩ := id hp3
      refine bX5_look_38 o3.1 hx3.1 (by decide) (fun c2 => ⟨rfl, ?_, h3⟩) (fun c2 c3 => ?_) (fun c2 c3 c4 => ?_) (fun c2 c3 c4 => ?_)
      · rw [ks_all n (by omega), ks_ltI (by omega) (by omega)] at c2
        obtain rfl : S = 2 ^ n := by omega
        exact ⟨l3, f3, C3, hx3, hr3.1, hr3.2.1⟩
      all_goals
        rw [ks_all n (by omega), ks_ltI (by omega) (by omega)] at c2
        have p0 := Nat.pow_pos (a := 2) (n := n) (by decide)
        have lS : S < 2 ^ n := by omega
        have pl := ks_pop_le S
        rw [ks_cnt (by omega), show (4 : Int32) = nI 4 from rfl, ks_ltI (by omega) (by omega)] at c3
      · refine bX5_look_68 ?_
        rw [nI_1]
        exact ih _ lS ⟨pxs_skip hp3 fun q => by have := q.1.1; omega, h3⟩
      · rw [ks_cnt (by omega), show (6 : Int32) = nI 6 from rfl, ks_ltI (by omega) (by omega)] at c4
        refine bX5_look_68 ?_
        rw [nI_1]
        exact ih _ lS ⟨pxs_skip hp3 fun q => by have := q.1.2; omega, h3⟩
      · rw [ks_cnt (by omega), show (6 : Int32) = nI 6 from rfl, ks_ltI (by omega) (by omega)] at c4
        rw [ks_cnt (by omega)]
        refine mm_Call.of (s_weigh hp3 hw lS ⟨by omega, by omega⟩) (by decide) ?_
        rintro _ M4 ⟨rfl, k1, k2⟩
        refine bX5_look_68 ?_
        rw [nI_1]
        exact ih _ lS ⟨k1, fun j hj => by rw [k2 j (by omega) (by omega) (by omega), h3 j hj]⟩
    · rw [ks_b0, Classical.not_not] at c1
      have z := g_pc_0 c1
      refine ⟨0, fb', C', ?_, Or.inl ⟨rfl, z⟩, fun p hp => ?_⟩
      · rw [show g_pcs n T = 0 from gs_z fun S hS => g1_f (z S hS)]
        exact hx
      · rw [hf p hp, show g_blm n T p = 0 from gs_z fun S hS => g1_f fun q => z S hS q.1]
        rfl
  · rw [ks_b0, Classical.not_not] at c
    obtain ⟨rfl, rfl⟩ := c
    exact ⟨least, fb, C, ⟨p1, p2, p3, p4⟩, h5⟩
