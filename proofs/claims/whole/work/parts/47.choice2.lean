/-! APART, CLUMP: of the class -/
theorem CS.cpu {M M' : mm_Mem} {σ : g_st} (h : CS M σ) (hc : cp M') (e : ∀ j, j < 21 ∨ 25 < j → M' j = M j) : CS M' σ := by
  obtain ⟨n, T, L, K, t, f, fk⟩ := σ
  obtain ⟨-, -, -, h4, -, -, h8, h9, h10, -⟩ := id h
  exact h.scr (h4.eq (e 3 (by decide)) (e 4 (by decide))) (h8.eq fun j _ _ => e j (by omega)) (h9.eq fun j _ _ => e j (by omega)) hc fun j h1 h2 _ _ => e j (by omega)
theorem CS.cp {M : mm_Mem} {σ : g_st} (h : CS M σ) : cp M := by
  obtain ⟨n, T, L, K, t, f, fk⟩ := σ
  exact h.2.2.2.2.2.2.2.2.1
def ch (M : mm_Mem) (n : Nat) (F : Nat → Nat) (j : Nat) : Prop := mm_at M 24 (mm_aO 1 [.ref 25, .int (nI n), .int (nI (2 ^ n - 1))]) ∧ ∃ g, mm_at M 25 (mm_aI 14 g) ∧ ∀ p, p < j → g p = nI (F p)
theorem ch.cp {M : mm_Mem} {n j : Nat} {F : Nat → Nat} (h : ch M n F j) {M' : mm_Mem} (hc : cp M') (e : M 21 = M' 21) (e2 : M 22 = M' 22) (e3 : M 23 = M' 23) : cp M := by
  obtain ⟨h1, g, h2, -⟩ := h
  obtain ⟨c1, c2, c3, -⟩ := hc
  exact ⟨c1.eq e, c2.eq e2, c3.eq e3, ⟨_, _, h1⟩, ⟨g, h2⟩⟩
theorem s_takeTied {M : mm_Mem} {n : Nat} {T : Nat → Nat} {L : g_nets} {K : g_kept} {t : Nat} {f : Nat → Int32} {fk : Int32} (h : CS M (n, T, L, K, t, f, fk)) : mm_S 3 mX1_takeTied 0 0 [.ref 24, .ref 1] M (fun r M' => r = none ∧ CS M' (n, T, L, K, t, f, fk) ∧ ch M' n (gF true n T) n ∧ ∀ j, j ≠ 24 → j ≠ 25 → M' j = M j) := by
  obtain ⟨o, hw⟩ := h.here
  have hn := hw.1
  obtain ⟨-, -, -, ⟨x, y, c4⟩, g, c5⟩ := h.cp
  refine mm_S.of rfl rfl (Nat.le_of_ble_eq_true rfl) (fun r M' h x e => by rw [h.1] at e; cases e) (bX1_takeTied_0 o.1 c4 (by decide) (by decide) ?_)
  rw [ks_all n (by omega), show (0 : Int32) = nI 0 from rfl]
  refine fld (s := 0) (n := n) (G := fun p (M1 : mm_Mem) => mm_X mX1_takeTied 3 none (0, 0) 18 [.ref 24, .ref 1, .int (nI p)] [] M1 _) (v0 := _) (I := fun p M1 => ch M1 n (gF true n T) p ∧ ∀ j, j ≠ 24 → j ≠ 25 → M1 j = M j) (Nat.zero_le n) ⟨⟨mm_at.s c4.1, g, c5.n (by decide), fun p hp => absurd hp (Nat.not_lt_zero p)⟩, fun j h1 _ => mm_up_n h1⟩ ?_
  rintro p M1 _ hp ⟨⟨q1, g1, q2, q3⟩, e1⟩ ih
  have o1 : na M1 1 n T := o.eq (e1 1 (by decide) (by decide)) (e1 2 (by decide) (by decide))
  refine bX1_takeTied_18 q1 o1.1 o1.2 q2 (by decide) (fun c => ?_) (fun c => ?_)
  · rw [ks_le (by omega) (by omega)] at c
    obtain rfl : p = n := by omega
    have k : ch M1 p (gF true p T) p := ⟨q1, g1, q2, q3⟩
    exact ⟨rfl, h.cpu (k.cp h.cp (e1 21 (by decide) (by decide)) (e1 22 (by decide) (by decide)) (e1 23 (by decide) (by decide))) fun j hj => e1 j (by omega) (by omega), k, e1⟩
  · rw [ks_le (by omega) (by omega)] at c
    rw [ks_at (by decide) (by omega), ks_put (by decide) (by omega), nI_1]
    refine ih _ (by omega) ⟨⟨q1.n (by decide), _, mm_at.s q2.1, fun p' hp' => ?_⟩, fun j h1 h2 => (mm_up_n h2).trans (e1 j h1 h2)⟩
    by_cases e : p' = p
    · subst e
      rw [pk_us]
      show nI (T p') = nI (if true = true then T p' else _)
      rw [if_pos rfl]
    · rw [pk_un e]
      exact q3 p' (by omega)
theorem s_takeUntied {M : mm_Mem} {n : Nat} {T : Nat → Nat} {L : g_nets} {K : g_kept} {t : Nat} {f : Nat → Int32} {fk : Int32} (h : CS M (n, T, L, K, t, f, fk)) : mm_S 3 mX1_takeUntied 0 0 [.ref 24, .ref 1] M (fun r M' => r = none ∧ CS M' (n, T, L, K, t, f, fk) ∧ ch M' n (gF false n T) n ∧ ∀ j, j ≠ 24 → j ≠ 25 → M' j = M j) := by
  obtain ⟨o, hw⟩ := h.here
  have hn := hw.1
  obtain ⟨-, -, -, ⟨x, y, c4⟩, g, c5⟩ := h.cp
  refine mm_S.of rfl rfl (Nat.le_of_ble_eq_true rfl) (fun r M' h x e => by rw [h.1] at e; cases e) (bX1_takeUntied_0 o.1 c4 (by decide) (by decide) ?_)
  rw [ks_all n (by omega), show (0 : Int32) = nI 0 from rfl]
  refine fld (s := 0) (n := n) (G := fun p (M1 : mm_Mem) => mm_X mX1_takeUntied 3 none (0, 0) 18 [.ref 24, .ref 1, .int (nI p)] [] M1 _) (v0 := _) (I := fun p M1 => ch M1 n (gF false n T) p ∧ ∀ j, j ≠ 24 → j ≠ 25 → M1 j = M j) (Nat.zero_le n) ⟨⟨mm_at.s c4.1, g, c5.n (by decide), fun p hp => absurd hp (Nat.not_lt_zero p)⟩, fun j h1 _ => mm_up_n h1⟩ ?_
  rintro p M1 _ hp ⟨⟨q1, g1, q2, q3⟩, e1⟩ ih
  have o1 : na M1 1 n T := o.eq (e1 1 (by decide) (by decide)) (e1 2 (by decide) (by decide))
  refine bX1_takeUntied_18 q1 o1.1 o1.2 q2 (by decide) (fun c => ?_) (fun c => ?_)
  · rw [ks_le (by omega) (by omega)] at c
    obtain rfl : p = n := by omega
    have k : ch M1 p (gF false p T) p := ⟨q1, g1, q2, q3⟩
    exact ⟨rfl, h.cpu (k.cp h.cp (e1 21 (by decide) (by decide)) (e1 22 (by decide) (by decide)) (e1 23 (by decide) (by decide))) fun j hj => e1 j (by omega) (by omega), k, e1⟩
  · rw [ks_le (by omega) (by omega)] at c
    rw [ks_at (by decide) (by omega), ks_shl1 _ (by omega), ks_andn, ks_andn, ks_put (by decide) (by omega), nI_1]
    refine ih _ (by omega) ⟨⟨q1.n (by decide), _, mm_at.s q2.1, fun p' hp' => ?_⟩, fun j h1 h2 => (mm_up_n h2).trans (e1 j h1 h2)⟩
    by_cases e : p' = p
    · subst e
      rw [pk_us]
      unfold gF
      rw [if_neg (by decide), if_pos (show p' < n by omega)]
    · rw [pk_un e]
      exact q3 p' (by omega)
theorem s_mostOf {M : mm_Mem} {n : Nat} {F : Nat → Nat} {g : Nat → Int32} (o : mm_at M 25 (mm_aI 14 g)) (hg : ∀ p, p < n → g p = nI (F p)) (hw : gw n F) : ∀ m A l, A < 2 ^ n → ks_pop A ≤ m → l + m ≤ 14 → mm_S (m + 2) mX1_mostOf 0 0 [.ref 25, .int (nI A), .int (nI l)] M (fun r M' => M' = M ∧ ∃ k, r = some (.int (nI k)) ∧ mx F A k) := by
  have hn := hw.1
  intro m
  induction m with
  | zero =>
    intro A l hA hp hl
    have e := ks_pop_0 (ks_p14 hn hA) (Nat.le_zero.mp hp)
    subst e
    refine mm_S.of rfl rfl (Nat.le_of_ble_eq_true rfl) (fun r M' h x e => by obtain ⟨-, v, h, -⟩ := h; rw [h] at e; cases e) (bX1_mostOf_0 o (by omega) (fun c => ⟨rfl, 0, rfl, mx_0⟩) (fun c => absurd rfl c) (fun c => absurd rfl c))
  | succ m ih =>
    intro A l hA hp hl
    have hA' := ks_p14 hn hA
    refine mm_S.of rfl rfl (Nat.le_of_ble_eq_true rfl) (fun r M' h x e => by obtain ⟨-, v, h, -⟩ := h; rw [h] at e; cases e) (bX1_mostOf_0 o (by omega) (fun c => ?_) (fun c c1 => ?_) (fun c c1 => ?_))
    · rw [ks_eq0 (by omega)] at c
      subst c
      exact ⟨rfl, 0, rfl, mx_0⟩
    · rw [ks_eq0 (by omega)] at c
      obtain ⟨p, hf⟩ := ks_fst_ex c
      have hpn : p < n := ks_bit_lt hA hf.1
      rw [ks_low hA' hf, ks_shl1 _ (by omega), ks_andn, ks_at (by decide) (by omega), hg p hpn, nx_and, nI_1]
      have q0 := ks_pop_nd hA' hf.1
      have lR : ks_nd A (2 ^ p) < 2 ^ n := ks_nd_lt hA
      have lR' := ks_p14 hn lR
      have lB : ks_nd A (2 ^ p) &&& F p < 2 ^ n := ks_and_lt lR
      have pB : ks_pop (ks_nd A (2 ^ p) &&& F p) ≤ ks_pop (ks_nd A (2 ^ p)) := ks_pop_m hn lR fun i hi => by rw [Nat.testBit_and, Bool.and_eq_true] at hi; exact hi.1
      refine mm_Call.of (ih _ (l + 1) lB (by omega) (by omega)) (by omega) ?_
      rintro _ _ ⟨rfl, k1, rfl, h1⟩
      have k14 : k1 ≤ 14 := by
        obtain ⟨⟨S, -, -, e⟩, -⟩ := h1
        have := ks_pop_le S
        omega
      refine bX1_mostOf_42 o (by omega) (fun c2 => ?_) (fun c2 => ?_)
      · rw [nI_1]
        refine mm_Call.of (ih _ (l + 1) lR (by omega) (by omega)) (by omega) ?_
        rintro _ _ ⟨rfl, k2, rfl, h2⟩
        have k24 : k2 ≤ 14 := by
          obtain ⟨⟨S, -, -, e⟩, -⟩ := h2
          have := ks_pop_le S
          omega
        refine bX1_mostOf_72 (by omega) ⟨rfl, max (k1 + 1) k2, ?_, mx_s hw hA hf.1 h1 h2⟩
        rw [show (1 : Int32) = nI 1 from rfl, nI_add, Nat.add_comm 1 k1]
        by_cases e : k1 + 1 < k2
        · rw [if_pos ((ks_ltI (by omega) (by omega)).mpr e), Nat.max_eq_right (Nat.le_of_lt e)]
        · rw [if_neg (fun q => e ((ks_ltI (by omega) (by omega)).mp q)), Nat.max_eq_left (Nat.le_of_not_lt e)]
      · rw [ks_at (by decide) (by omega), hg p hpn, ks_andn, ks_eq0 (Nat.lt_of_le_of_lt (ks_nd_le _ _) (by omega)), ks_zero] at c2
        have e : ks_nd A (2 ^ p) &&& F p = ks_nd A (2 ^ p) := ks_ext fun i => by
          rw [Nat.testBit_and]
          have := c2 i
          rw [ks_nd_bit (by omega)] at this
          cases q : (ks_nd A (2 ^ p)).testBit i with
          | false => rfl
          | true =>
            rw [q, Bool.true_and, Bool.not_eq_false'] at this
            rw [this]
            rfl
        have h2 := h1
        rw [e] at h2
        have := mx_s hw hA hf.1 h1 h2
        rw [Nat.max_eq_left (Nat.le_succ k1)] at this
        exact ⟨rfl, k1 + 1, by rw [show (1 : Int32) = nI 1 from rfl, nI_add, Nat.add_comm 1 k1], this⟩
    · rw [show (14 : Int32) = nI 14 from rfl, ks_le (by omega) (by omega)] at c1
      omega
theorem s_most {M : mm_Mem} {n : Nat} {F : Nat → Nat} (h : ch M n F n) (hw : gw n F) : mm_S 17 mX1_most 0 0 [.ref 24] M (fun r M' => M' = M ∧ ∃ k, r = some (.int (nI k)) ∧ mx F (2 ^ n - 1) k) := by
  obtain ⟨o, g, o2, hg⟩ := h
  refine mm_S.of rfl rfl (Nat.le_of_ble_eq_true rfl) (fun r M' h x e => by obtain ⟨-, v, h, -⟩ := h; rw [h] at e; cases e) (bX1_most_0 o (mm_Call.of (s_mostOf o2 hg hw 14 _ 0 (ks_am n) (ks_pop_le _) (by decide)) (by decide) ?_))
  rintro _ _ ⟨rfl, k, rfl, h1⟩
  exact bX1_most_12 ⟨rfl, k, rfl, h1⟩
theorem lmc_0 {F : Nat → Nat} : lmc F 0 0 := ⟨fun _ h => h, cq_0, fun S hs _ => by rw [ks_sub_0 hs]; exact Or.inr ⟨rfl, Nat.le_refl 0⟩⟩
theorem s_leastSet {M : mm_Mem} {n : Nat} {F : Nat → Nat} (h : ch M n F n) (hw : gw n F) : mm_S 18 mX1_leastSet 0 0 [.ref 24] M (fun r M' => M' = M ∧ ∃ v, r = some (.int (nI v)) ∧ lmc F (2 ^ n - 1) v) := by
  have hn := hw.1
  obtain ⟨o, g, o2, hg⟩ := id h
  refine mm_S.of rfl rfl (Nat.le_of_ble_eq_true rfl) (fun r M' h x e => by obtain ⟨-, v, h, -⟩ := h; rw [h] at e; cases e) (bX1_leastSet_0 o (mm_Call.of (s_most h hw) (by decide) ?_))
  rintro _ M2 ⟨rfl, k, rfl, h1⟩
  refine bX1_leastSet_9 o ?_
  have H : ∀ m, m ≤ n → ∀ A k S, A < 2 ^ m → mx F A k → (∀ v, lmc F A v → lmc F (2 ^ n - 1) (S ||| v)) → mm_X mX1_leastSet 18 none (0, 0) 20 [.ref 24, .int (nI A), .int (nI k), .int (nI S), .int (nI m - 1), .null] [] M2 (fun r M' => M' = M2 ∧ ∃ v, r = some (.int (nI v)) ∧ lmc F (2 ^ n - 1) v) := by
    intro m
    induction m with
    | zero =>
      intro _ A k S hA hk hv
      have e : A = 0 := by omega
      subst e
      have := hv 0 lmc_0
      rw [Nat.or_zero] at this
      exact bX1_leastSet_20 o (by decide) (fun _ => ⟨rfl, S, rfl, this⟩) (fun c => absurd (by decide) c) (fun c => absurd (by decide) c)
    | succ m ih =>
      intro hm A k S hA hk hv
      have hA14 : A < 16384 := ks_p14 (show m + 1 ≤ 14 by omega) hA
      have hAn : A < 2 ^ n := Nat.lt_of_lt_of_le hA (Nat.pow_le_pow_right (by decide) hm)
      have k14 : k ≤ 14 := by
        obtain ⟨⟨S, -, -, e⟩, -⟩ := hk
        have := ks_pop_le S
        omega
      have e1 : nI m + (-1) = nI m - 1 := by rw [Int32.sub_eq_add_neg]
      rw [nI_pred]
      have lt := ks_nd_top hA hA14
      have ltn : ks_nd A (2 ^ m) < 2 ^ n := ks_nd_lt hAn
      refine bX1_leastSet_20 o (by decide) (fun c => absurd c (nI_pos (by omega))) (fun _ c => ?_) (fun _ c => ?_)
      · rw [ks_has (by omega) (by omega), ks_b0, Classical.not_not] at c
        rw [ks_shl1 _ (by omega), ks_andn]
        refine mm_Call.of (s_mostOf o2 hg hw 14 _ 0 ltn (ks_pop_le _) (by decide)) (by decide) ?_
        rintro _ _ ⟨rfl, k2, rfl, h2⟩
        have k24 : k2 ≤ 14 := by
          obtain ⟨⟨S, -, -, e⟩, -⟩ := h2
          have := ks_pop_le S
          omega
        refine bX1_leastSet_57 o o2 (by decide) (fun c2 => ?_) (fun c2 => ?_)
        · rw [ks_ltI (by omega) (by omega)] at c2
          rw [ks_at (by decide) (by omega), hg m (by omega), nx_and, ks_shl1 _ (by omega), nx_or, e1, show nI k + (-1) = nI (k - 1) from by rw [← nI_sub1 (show k ≠ 0 by omega), Int32.sub_eq_add_neg]]
          have lB : ks_nd A (2 ^ m) &&& F m < 2 ^ m := ks_and_lt lt
          obtain ⟨k1, h1'⟩ : ∃ k1, mx F (ks_nd A (2 ^ m) &&& F m) k1 := by
            refine Classical.byContradiction fun q => ?_
            have : ∀ j, ∃ R, ks_sub R (ks_nd A (2 ^ m) &&& F m) ∧ cq F R ∧ j ≤ ks_pop R := by
              intro j
              induction j with
              | zero => exact ⟨0, fun i hi => (by rw [Nat.zero_testBit] at hi; cases hi), cq_0, Nat.zero_le _⟩
              | succ j jh =>
                obtain ⟨R, r1, r2, r3⟩ := jh
                refine Classical.byContradiction fun q2 => q ⟨j, ⟨R, r1, r2, ?_⟩, fun R' s1 s2 => ?_⟩
                · rcases Nat.lt_or_ge j (ks_pop R) with u | u
                  · exact absurd ⟨R, r1, r2, u⟩ q2
                  · omega
                · rcases Nat.lt_or_ge j (ks_pop R') with u | u
                  · exact absurd ⟨R', s1, s2, u⟩ q2
                  · exact u
            obtain ⟨R, -, -, r⟩ := this 15
            have := ks_pop_le R
            omega
          have hk' := mx_u hk (mx_s hw hAn c h1' h2)
          have k1k : k1 + 1 = k := by
            rcases Nat.le_total (k1 + 1) k2 with u | u
            · rw [Nat.max_eq_right u] at hk'
              omega
            · rw [Nat.max_eq_left u] at hk'
              exact hk'.symm
          refine ih (by omega) _ (k - 1) _ lB (by rw [show k - 1 = k1 from by omega]; exact h1') fun v lv => ?_
          rw [Nat.or_assoc, Nat.or_comm (2 ^ m) v]
          refine hv _ (lmc_in hw (by omega) hA hA14 c lv fun R hs hc => ?_)
          have u1 := h2.2 R hs hc
          have u2 := mx_u (lmc_mx lv) h1'
          omega
        · rw [ks_ltI (by omega) (by omega)] at c2
          rw [e1]
          have e2 : k2 = k := by
            obtain ⟨⟨R, r1, r2, r3⟩, -⟩ := h2
            have := hk.2 R (fun i hi => ((ks_nd1t hA14).mp (r1 i hi)).1) r2
            omega
          subst e2
          refine ih (by omega) _ _ _ lt h2 fun v lv => hv v (lmc_out hA hA14 lv fun R hs hc => ?_)
          rw [mx_u (lmc_mx lv) h2]
          exact hk.2 R hs hc
      · rw [ks_has (by omega) (by omega), ks_b0] at c
        rw [e1]
        refine ih (by omega) A k S (ks_lt fun i hi => ?_) hk hv
        have := ks_bit_lt hA hi
        rcases Nat.lt_or_ge i m with u | u
        · exact u
        · obtain rfl : i = m := by omega
          exact absurd hi c
  have := H n (Nat.le_refl n) (2 ^ n - 1) k 0 (ks_am n) h1 fun v lv => by rw [Nat.zero_or]; exact lv
  exact this
noncomputable def o_most (b : Bool) : g_st → Int32 → Int32 × g_st
  | (n, T, L, K, t, f, fk), x => (if x = 0 then nI (ks_pop (g_the (lmc (gF b n T) (2 ^ n - 1)))) else if x = 1 then nI (g_the (lmc (gF b n T) (2 ^ n - 1))) else -1, (n, T, L, K, t, f, fk))
theorem lmc_ex {F : Nat → Nat} {A v : Nat} (h : lmc F A v) : g_the (lmc F A) = v := g_the_eq h lmc_u
theorem ch_lmc {F : Nat → Nat} {A k : Nat} (h : mx F A k) : ∃ v, lmc F A v := by
  obtain ⟨⟨S, h1, h2, h3⟩, h4⟩ := h
  have key : ∀ m S, S ≤ m → ks_sub S A → cq F S → ks_pop S = k → ∃ v, lmc F A v := by
    intro m
    induction m with
    | zero =>
      intro S hS a1 a2 a3
      refine ⟨S, a1, a2, fun R b1 b2 => ?_⟩
      have := h4 R b1 b2
      omega
    | succ m ih =>
      intro S hS a1 a2 a3
      by_cases e : ∃ R, R < S ∧ ks_sub R A ∧ cq F R ∧ ks_pop R = k
      · obtain ⟨R, b0, b1, b2, b3⟩ := e
        exact ih R (by omega) b1 b2 b3
      · refine ⟨S, a1, a2, fun R b1 b2 => ?_⟩
        have := h4 R b1 b2
        rcases Nat.lt_or_ge (ks_pop R) k with u | u
        · left
          omega
        · right
          refine ⟨by omega, ?_⟩
          rcases Nat.lt_or_ge R S with w | w
          · exact absurd ⟨R, w, b1, b2, by omega⟩ e
          · exact w
  exact key S S (Nat.le_refl S) h1 h2 h3
theorem s_chosen {M : mm_Mem} {n : Nat} {b : Bool} {T : Nat → Nat} {L : g_nets} {K : g_kept} {t : Nat} {f : Nat → Int32} {fk x : Int32} (h : CS M (n, T, L, K, t, f, fk)) (c : ch M n (gF b n T) n) : mm_S 19 mX9_chosen 0 0 [.ref 0, .int x] M (mm_Eq (some (.int (o_most b (n, T, L, K, t, f, fk) x).1)) M) := by
  obtain ⟨o, hw⟩ := h.here
  have hwF := gw_gF (b := b) hw
  refine mm_S.of rfl rfl (Nat.le_of_ble_eq_true rfl) mm_ndi (bX9_chosen_0 c.1 (h.fd 7 24 (by decide)) (fun c1 c2 => ⟨?_, rfl⟩) (fun c1 c2 => mm_Call.of (s_leastSet c hwF) (by decide) ?_) (fun c1 => mm_Call.of (s_most c hwF) (by decide) ?_))
  · dsimp only [o_most]
    rw [if_neg c1, if_neg c2]
  · rintro _ _ ⟨rfl, v, rfl, hv⟩
    refine bX9_chosen_24 ⟨?_, rfl⟩
    dsimp only [o_most]
    rw [if_neg c1, if_pos c2, lmc_ex hv]
  · rintro _ _ ⟨rfl, k, rfl, hk⟩
    refine bX9_chosen_11 ⟨?_, rfl⟩
    obtain ⟨v, hv⟩ := ch_lmc hk
    dsimp only [o_most]
    rw [if_pos c1, lmc_ex hv, mx_u hk (lmc_mx hv)]
theorem oC_apart {M : mm_Mem} {σ : g_st} {x : Int32} (h : CS M σ) : OC 20 mX9_apart [.int x] M (o_most false σ x) := by
  obtain ⟨n, T, L, K, t, f, fk⟩ := σ
  obtain ⟨-, -, -, ⟨x', y, c4⟩, -⟩ := h.cp
  refine mm_S.of rfl rfl (Nat.le_of_ble_eq_true rfl) ndC (bX9_apart_0 c4 (h.fd 7 24 (by decide)) (h.fd 0 1 (by decide)) (mm_Call.of (s_takeUntied h) (by decide) ?_))
  rintro _ M1 ⟨rfl, h1, k, e⟩
  refine bX9_apart_11 (h1.fd 0 1 (by decide)).rc (mm_Call.eq (s_chosen h1 k) (by decide) (bX9_apart_16 ⟨rfl, h1, fun j hj => e j (by omega) (by omega)⟩))
theorem oC_clump {M : mm_Mem} {σ : g_st} {x : Int32} (h : CS M σ) : OC 20 mX9_clump [.int x] M (o_most true σ x) := by
  obtain ⟨n, T, L, K, t, f, fk⟩ := σ
  obtain ⟨-, -, -, ⟨x', y, c4⟩, -⟩ := h.cp
  refine mm_S.of rfl rfl (Nat.le_of_ble_eq_true rfl) ndC (bX9_clump_0 c4 (h.fd 7 24 (by decide)) (h.fd 0 1 (by decide)) (mm_Call.of (s_takeTied h) (by decide) ?_))
  rintro _ M1 ⟨rfl, h1, k, e⟩
  refine bX9_clump_11 (h1.fd 0 1 (by decide)).rc (mm_Call.eq (s_chosen h1 k) (by decide) (bX9_clump_16 ⟨rfl, h1, fun j hj => e j (by omega) (by omega)⟩))
