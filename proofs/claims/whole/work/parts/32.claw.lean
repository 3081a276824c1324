/-! THE LEAST CLAW -/
theorem ks_fst_u {S a b : Nat} (h : ks_fst S a) (h' : ks_fst S b) : a = b := by
  rcases Nat.lt_trichotomy a b with q | q | q
  · have := h'.2 a q
    rw [h.1] at this
    cases this
  · exact q
  · have := h.2 b q
    rw [h'.1] at this
    cases this
theorem ks_nd1 {S a i : Nat} (hS : S < 16384) : (ks_nd S (2 ^ a)).testBit i = (S.testBit i && !decide (a = i)) := by
  rw [ks_nd_bit (by omega), ks_p2]
theorem ks_nd_lt {S a : Nat} {m : Nat} (hS : S < m) : ks_nd S a < m := Nat.lt_of_le_of_lt (ks_nd_le _ _) hS
theorem gs_one {a : Nat} : ∀ n, gs (fun i => g1 (a = i)) n = g1 (a < n)
  | 0 => (g1_f (Nat.not_lt_zero a)).symm
  | n + 1 => by
    show gs _ n + g1 (a = n) = _
    rw [gs_one n]
    rcases Nat.lt_trichotomy a n with q | q | q
    · rw [g1_t q, g1_f (by omega), g1_t (by omega)]
    · rw [g1_f (by omega), g1_t q, g1_t (by omega)]
    · rw [g1_f (by omega), g1_f (by omega), g1_f (by omega)]
theorem ks_pop_nd {S a : Nat} (hS : S < 16384) (h : S.testBit a = true) : ks_pop (ks_nd S (2 ^ a)) + 1 = ks_pop S := by
  have ha : a < 14 := ks_bit_lt (n := 14) hS h
  rw [ks_popn (n := 14) (Nat.le_refl _) (ks_nd_lt hS), ks_popn (n := 14) (Nat.le_refl _) hS, ← g1_t ha, ← gs_one 14, ← gs_add (f := fun i => g1 ((ks_nd S (2 ^ a)).testBit i = true))]
  refine gs_eq fun i _ => ?_
  rw [ks_nd1 hS]
  by_cases e : a = i
  · subst e
    rw [h, decide_eq_true rfl, g1_t rfl, g1_t rfl, g1_f (by decide)]
  · rw [g1_f e, decide_eq_false e, Bool.not_false, Bool.and_true]
    rfl
theorem ks_pop_0 {S : Nat} (hS : S < 16384) (h : ks_pop S = 0) : S = 0 := by
  rcases Nat.eq_zero_or_pos S with q | q
  · exact q
  · obtain ⟨a, ha, -⟩ := ks_fst_ex (S := S) (by omega)
    have := ks_pop_nd hS ha
    omega
def ks_dec (S c a b e : Nat) : Prop := ks_fst (ks_nd S (2 ^ c)) a ∧ ks_fst (ks_nd (ks_nd S (2 ^ c)) (2 ^ a)) b ∧ ks_fst (ks_nd (ks_nd (ks_nd S (2 ^ c)) (2 ^ a)) (2 ^ b)) e
def ks_four (c a b e : Nat) : Nat := 2 ^ c ||| 2 ^ a ||| 2 ^ b ||| 2 ^ e
theorem ks_four_bit {c a b e i : Nat} : (ks_four c a b e).testBit i = true ↔ (i = c ∨ i = a ∨ i = b ∨ i = e) := by
  unfold ks_four
  rw [Nat.testBit_or, Nat.testBit_or, Nat.testBit_or, ks_p2, ks_p2, ks_p2, ks_p2]
  simp only [Bool.or_eq_true, decide_eq_true_eq]
  constructor
  · rintro (((h | h) | h) | h) <;> simp [h]
  · rintro (h | h | h | h) <;> simp [h]
theorem ks_dec_lt {S c a b e : Nat} (hS : S < 16384) (h : ks_dec S c a b e) : a < b ∧ b < e := by
  obtain ⟨h1, h2, h3⟩ := h
  have l1 := ks_nd_lt (a := 2 ^ c) hS
  have l2 := ks_nd_lt (a := 2 ^ a) l1
  have b1 := h2.1
  rw [ks_nd1 l1] at b1
  have e1 := h3.1
  rw [ks_nd1 l2] at e1
  simp only [Bool.and_eq_true, Bool.not_eq_true', decide_eq_false_iff_not] at b1 e1
  constructor
  · rcases Nat.lt_trichotomy a b with q | q | q
    · exact q
    · exact absurd q b1.2
    · have := h1.2 b q
      rw [b1.1] at this
      cases this
  · rcases Nat.lt_trichotomy b e with q | q | q
    · exact q
    · exact absurd q e1.2
    · have := h2.2 e q
      rw [e1.1] at this
      cases this
theorem ks_dec_ex {S c : Nat} (hS : S < 16384) (hp : ks_pop S = 4) (hc : S.testBit c = true) : ∃ a b e, ks_dec S c a b e ∧ S = ks_four c a b e := by
  have p1 := ks_pop_nd hS hc
  have l1 := ks_nd_lt (a := 2 ^ c) hS
  have ne : ∀ {R}, 0 < ks_pop R → R ≠ 0 := fun h e => by
    subst e
    exact absurd h (by decide)
  obtain ⟨a, ha⟩ := ks_fst_ex (ne (R := ks_nd S (2 ^ c)) (by omega))
  have p2 := ks_pop_nd l1 ha.1
  have l2 := ks_nd_lt (a := 2 ^ a) l1
  obtain ⟨b, hb⟩ := ks_fst_ex (ne (R := ks_nd (ks_nd S (2 ^ c)) (2 ^ a)) (by omega))
  have p3 := ks_pop_nd l2 hb.1
  have l3 := ks_nd_lt (a := 2 ^ b) l2
  obtain ⟨e, he⟩ := ks_fst_ex (ne (R := ks_nd (ks_nd (ks_nd S (2 ^ c)) (2 ^ a)) (2 ^ b)) (by omega))
  have p4 := ks_pop_nd l3 he.1
  have l4 := ks_nd_lt (a := 2 ^ e) l3
  have z := ks_pop_0 l4 (by omega)
  refine ⟨a, b, e, ⟨ha, hb, he⟩, ks_ext fun i => ?_⟩
  have q1 := ha.1
  have q2 := hb.1
  have q3 := he.1
  rw [ks_nd1 hS] at q1
  rw [ks_nd1 l1, ks_nd1 hS] at q2
  rw [ks_nd1 l2, ks_nd1 l1, ks_nd1 hS] at q3
  simp only [Bool.and_eq_true] at q1 q2 q3
  have q4 : (ks_nd (ks_nd (ks_nd (ks_nd S (2 ^ c)) (2 ^ a)) (2 ^ b)) (2 ^ e)).testBit i = false := by rw [z, Nat.zero_testBit]
  rw [ks_nd1 l3, ks_nd1 l2, ks_nd1 l1, ks_nd1 hS] at q4
  rw [Bool.eq_iff_iff, ks_four_bit]
  constructor
  · intro h
    rw [h] at q4
    simp only [Bool.true_and, Bool.and_eq_false_iff, Bool.not_eq_false', decide_eq_true_eq] at q4
    rcases q4 with ((q | q) | q) | q
    · exact Or.inl q.symm
    · exact Or.inr (Or.inl q.symm)
    · exact Or.inr (Or.inr (Or.inl q.symm))
    · exact Or.inr (Or.inr (Or.inr q.symm))
  · rintro (rfl | rfl | rfl | rfl)
    · exact hc
    · exact q1.1
    · exact q2.1.1
    · exact q3.1.1.1
theorem ks_dec_of {c a b e : Nat} (hS : ks_four c a b e < 16384) (h1 : a < b) (h2 : b < e) (n1 : c ≠ a) (n2 : c ≠ b) (n3 : c ≠ e) : ks_dec (ks_four c a b e) c a b e := by
  have l1 := ks_nd_lt (a := 2 ^ c) hS
  have l2 := ks_nd_lt (a := 2 ^ a) l1
  have f : ∀ {X : Bool} {P : Prop}, (X = true ↔ P) → ¬ P → X = false := fun {X P} h hn => by
    cases e : X with
    | false => rfl
    | true => exact absurd (h.mp e) hn
  refine ⟨⟨?_, fun i hi => ?_⟩, ⟨?_, fun i hi => ?_⟩, ⟨?_, fun i hi => ?_⟩⟩
  · rw [ks_nd1 hS, ks_four_bit.mpr (Or.inr (Or.inl rfl)), decide_eq_false n1]; rfl
  · rw [ks_nd1 hS]
    by_cases q : c = i
    · rw [decide_eq_true q]; simp
    · rw [f ks_four_bit (by omega)]; rfl
  · rw [ks_nd1 l1, ks_nd1 hS, ks_four_bit.mpr (Or.inr (Or.inr (Or.inl rfl))), decide_eq_false n2, decide_eq_false (show ¬ a = b by omega)]; rfl
  · rw [ks_nd1 l1, ks_nd1 hS]
    by_cases q : c = i
    · rw [decide_eq_true q]; simp
    · by_cases q2 : a = i
      · rw [decide_eq_true q2]; simp
      · rw [f ks_four_bit (by omega)]; rfl
  · rw [ks_nd1 l2, ks_nd1 l1, ks_nd1 hS, ks_four_bit.mpr (Or.inr (Or.inr (Or.inr rfl))), decide_eq_false n3, decide_eq_false (show ¬ a = e by omega), decide_eq_false (show ¬ b = e by omega)]; rfl
  · rw [ks_nd1 l2, ks_nd1 l1, ks_nd1 hS]
    by_cases q : c = i
    · rw [decide_eq_true q]; simp
    · by_cases q2 : a = i
      · rw [decide_eq_true q2]; simp
      · by_cases q3 : b = i
        · rw [decide_eq_true q3]; simp
        · rw [f ks_four_bit (by omega)]; rfl
/-- a claw as a set -/
def g_cl4 (n : Nat) (T : Nat → Nat) (c a b e S : Nat) : Prop := c < n ∧ a < b ∧ b < e ∧ e < n ∧ gcl T c a b e ∧ S = ks_four c a b e
def g_clS (n : Nat) (T : Nat → Nat) (S : Nat) : Prop := ∃ c a b e, g_cl4 n T c a b e S
theorem g_cl4_ne {n c a b e S : Nat} {T : Nat → Nat} (hw : gw n T) (h : g_cl4 n T c a b e S) : c ≠ a ∧ c ≠ b ∧ c ≠ e := by
  obtain ⟨-, -, -, -, ⟨h1, h2, h3, -⟩, -⟩ := h
  refine ⟨fun q => ?_, fun q => ?_, fun q => ?_⟩
  · rw [← q, hw.2.2.2.2] at h1; cases h1
  · rw [← q, hw.2.2.2.2] at h2; cases h2
  · rw [← q, hw.2.2.2.2] at h3; cases h3
theorem ks_four_lt {c a b e n : Nat} (h1 : c < n) (h2 : a < n) (h3 : b < n) (h4 : e < n) : ks_four c a b e < 2 ^ n := by
  unfold ks_four
  exact ks_or_lt (ks_or_lt (ks_or_lt (ks_p2_lt h1) (ks_p2_lt h2)) (ks_p2_lt h3)) (ks_p2_lt h4)
theorem ks_four_pop {c a b e : Nat} (hc : c < 14) (he : e < 14) (h1 : a < b) (h2 : b < e) (n1 : c ≠ a) (n2 : c ≠ b) (n3 : c ≠ e) : ks_pop (ks_four c a b e) = 4 := by
  have hS : ks_four c a b e < 16384 := ks_four_lt (n := 14) hc (by omega) (by omega) he
  obtain ⟨d1, d2, d3⟩ := ks_dec_of hS h1 h2 n1 n2 n3
  have l1 := ks_nd_lt (a := 2 ^ c) hS
  have l2 := ks_nd_lt (a := 2 ^ a) l1
  have l3 := ks_nd_lt (a := 2 ^ b) l2
  have p1 := ks_pop_nd hS (ks_four_bit.mpr (Or.inl rfl))
  have p2 := ks_pop_nd l1 d1.1
  have p3 := ks_pop_nd l2 d2.1
  have p4 := ks_pop_nd l3 d3.1
  have z : ks_nd (ks_nd (ks_nd (ks_nd (ks_four c a b e) (2 ^ c)) (2 ^ a)) (2 ^ b)) (2 ^ e) = 0 := by
    rw [ks_zero]
    intro i
    rw [ks_nd1 l3, ks_nd1 l2, ks_nd1 l1, ks_nd1 hS]
    cases q : (ks_four c a b e).testBit i with
    | false => rfl
    | true =>
      rcases ks_four_bit.mp q with rfl | rfl | rfl | rfl <;> simp
  rw [z, show ks_pop 0 = 0 from rfl] at p4
  omega
/-! the class's search -/
theorem ks_ltb {x y i : Nat} (hx : x.testBit i = false) (hy : y.testBit i = true) (hj : ∀ j, i < j → x.testBit j = y.testBit j) : x < y := by
  have h1 : x / 2 ^ (i + 1) = y / 2 ^ (i + 1) := ks_ext fun j => by
    rw [Nat.testBit_div_two_pow, Nat.testBit_div_two_pow]
    exact hj _ (by omega)
  rw [Nat.testBit_eq_decide_div_mod_eq, decide_eq_false_iff_not] at hx
  rw [Nat.testBit_eq_decide_div_mod_eq, decide_eq_true_eq] at hy
  rw [Nat.pow_succ, ← Nat.div_div_eq_div_mul, ← Nat.div_div_eq_div_mul] at h1
  rcases Nat.lt_or_ge x y with q | q
  · exact q
  · have := Nat.div_le_div_right (c := 2 ^ i) q
    omega
def g_mn (P : Nat → Prop) (v : Nat) : Prop := (v = 0 ∧ ∀ S, ¬ P S) ∨ (v ≠ 0 ∧ P v ∧ ∀ S, P S → v ≤ S)
theorem g_mn_c {P Q : Nat → Prop} {v : Nat} (h : g_mn P v) (e : ∀ S, Q S ↔ P S) : g_mn Q v := by
  rwa [show Q = P from funext fun S => propext (e S)]
theorem g_mn_u {P : Nat → Prop} {v u : Nat} (h : g_mn P v) (h' : g_mn P u) : v = u := by
  rcases h with ⟨h1, h2⟩ | ⟨h1, h2, h3⟩
  · rcases h' with ⟨k1, k2⟩ | ⟨k1, k2, k3⟩
    · omega
    · exact absurd k2 (h2 u)
  · rcases h' with ⟨k1, k2⟩ | ⟨k1, k2, k3⟩
    · exact absurd h2 (k2 v)
    · exact Nat.le_antisymm (h3 u k2) (k3 v h2)
def g_ahead (n : Nat) (T : Nat → Nat) (c a b S : Nat) : Prop := ∃ c' a' b' e', g_cl4 n T c' a' b' e' S ∧ (c' < c ∨ c' = c ∧ (a' < a ∨ a' = a ∧ b' < b))
theorem s_leastClaw {M : mm_Mem} {k n : Nat} {T : Nat → Nat} (o : na M k n T) (hw : gw n T) : mm_S 3 mX3_leastClaw 0 0 [.ref k] M (fun r M' => M' = M ∧ ∃ v, r = some (.int (nI v)) ∧ g_mn (g_clS n T) v) := by
  have hn := hw.1
  refine mm_S.of rfl rfl (Nat.le_of_ble_eq_true rfl) (fun r M' h x e => by obtain ⟨-, v, h, -⟩ := h; rw [h] at e; cases e) (bX3_leastClaw_0 ?_)
  refine fld (s := 0) (G := fun j v => mm_X mX3_leastClaw 3 none (0, 0) 4 [.ref k, .int (nI v), .int (nI j), .null, .null, .null, .null, .null] [] M _) (I := fun j v => v < 16384 ∧ g_mn (g_ahead n T j 0 0) v) (Nat.zero_le n) ⟨by decide, Or.inl ⟨rfl, fun S => by rintro ⟨c, a, b, e, -, h⟩; omega⟩⟩ ?_
  rintro c v _ hc ⟨hv, hI⟩ ih
  refine bX3_leastClaw_4 o.1 o.2 (by decide) (fun c1 => ?_) (fun c1 => ?_)
  · simp (disch := omega) only [ks_le, ks_ltI, ks_eqI, ks_eq0, ks_le14, ks_has, ks_mhas, ks_at, ks_b0, gk_0, gk_1, ks_andn, nx_and, nx_or, nx_xor, ks_shl1, ks_shl2, Classical.not_not, nI_1] at c1
    obtain rfl : c = n := by omega
    exact ⟨rfl, v, rfl, g_mn_c hI fun S => ⟨fun ⟨c', a', b', e', h⟩ => ⟨c', a', b', e', h, Or.inl h.1⟩, fun ⟨c', a', b', e', h, _⟩ => ⟨c', a', b', e', h⟩⟩⟩
  simp (disch := omega) only [ks_le, ks_ltI, ks_eqI, ks_eq0, ks_le14, ks_has, ks_mhas, ks_at, ks_b0, gk_0, gk_1, ks_andn, nx_and, nx_or, nx_xor, ks_shl1, ks_shl2, Classical.not_not, nI_1] at c1
  rw [ks_at (by decide) (by omega)]
  refine fld (s := 0) (G := fun j v => mm_X mX3_leastClaw 3 none (0, 0) 24 [.ref k, .int (nI v), .int (nI c), .int (nI (T c)), .int (nI j), .null, .null, .null] [] M _) (I := fun j v => v < 16384 ∧ g_mn (g_ahead n T c j 0) v) (Nat.zero_le n) ⟨hv, hI⟩ ?_
  rintro a v _ ha ⟨hv, hI⟩ ih2
  refine bX3_leastClaw_24 o.1 (fun c2 => ?_) (fun c2 => ?_)
  · simp (disch := omega) only [ks_le, ks_ltI, ks_eqI, ks_eq0, ks_le14, ks_has, ks_mhas, ks_at, ks_b0, gk_0, gk_1, ks_andn, nx_and, nx_or, nx_xor, ks_shl1, ks_shl2, Classical.not_not, nI_1] at c2
    obtain rfl : a = n := by omega
    rw [nI_1]
    refine ih _ (by omega) ⟨hv, g_mn_c hI fun S => ⟨?_, ?_⟩⟩
    · rintro ⟨c', a', b', e', h, q⟩
      have h2 := h.2.1
      have h3 := h.2.2.1
      have h4 := h.2.2.2.1
      exact ⟨c', a', b', e', h, by omega⟩
    · rintro ⟨c', a', b', e', h, q⟩
      exact ⟨c', a', b', e', h, by omega⟩
  simp (disch := omega) only [ks_le, ks_ltI, ks_eqI, ks_eq0, ks_le14, ks_has, ks_mhas, ks_at, ks_b0, gk_0, gk_1, ks_andn, nx_and, nx_or, nx_xor, ks_shl1, ks_shl2, Classical.not_not, nI_1] at c2
  rw [nI_1]
  refine fld (s := a + 1) (n := n) (G := fun j v => mm_X mX3_leastClaw 3 none (0, 0) 39 [.ref k, .int (nI v), .int (nI c), .int (nI (T c)), .int (nI a), .int (nI j), .null, .null] [] M _) (I := fun j v => v < 16384 ∧ g_mn (g_ahead n T c a j) v) (by omega) ⟨hv, g_mn_c hI fun S => ⟨?_, ?_⟩⟩ ?_
  · rintro ⟨c', a', b', e', h, q⟩
    have h2 := h.2.1
    exact ⟨c', a', b', e', h, by omega⟩
  · rintro ⟨c', a', b', e', h, q⟩
    exact ⟨c', a', b', e', h, by omega⟩
  rintro b v hab hb ⟨hv, hI⟩ ih3
  have next : ∀ (hlt : b < n) (u : Nat), u < 16384 → ((∃ e, g_cl4 n T c a b e (ks_four c a b e)) → ∃ e, g_cl4 n T c a b e (ks_four c a b e) ∧ (∀ e', g_cl4 n T c a b e' (ks_four c a b e') → ks_four c a b e ≤ ks_four c a b e') ∧ u ≠ 0 ∧ ((v = 0 ∨ ks_four c a b e ≤ v) ∧ u = ks_four c a b e ∨ v ≠ 0 ∧ v ≤ ks_four c a b e ∧ u = v)) → ((¬ ∃ e, g_cl4 n T c a b e (ks_four c a b e)) → u = v) → g_mn (g_ahead n T c a (b + 1)) u := by
    intro hlt u hu h1 h2
    have sp : ∀ S, g_ahead n T c a (b + 1) S ↔ (g_ahead n T c a b S ∨ ∃ e, g_cl4 n T c a b e S) := by
      intro S
      constructor
      · rintro ⟨c', a', b', e', h, q⟩
        by_cases q2 : c' = c ∧ a' = a ∧ b' = b
        · obtain ⟨rfl, rfl, rfl⟩ := q2
          exact Or.inr ⟨e', h⟩
        · exact Or.inl ⟨c', a', b', e', h, by omega⟩
      · rintro (⟨c', a', b', e', h, q⟩ | ⟨e, h⟩)
        · exact ⟨c', a', b', e', h, by omega⟩
        · exact ⟨c, a, b, e, h, by omega⟩
    refine g_mn_c ?_ sp
    by_cases hx : ∃ e, g_cl4 n T c a b e (ks_four c a b e)
    · obtain ⟨e, k1, k2, k3, k4⟩ := h1 hx
      right
      refine ⟨k3, ?_, ?_⟩
      · rcases k4 with ⟨-, rfl⟩ | ⟨q1, q2, rfl⟩
        · exact Or.inr ⟨e, k1⟩
        · rcases hI with ⟨z, -⟩ | ⟨-, z, -⟩
          · exact absurd z q1
          · exact Or.inl z
      · rintro S (h | ⟨e', h⟩)
        · rcases hI with ⟨z1, z⟩ | ⟨z1, -, z⟩
          · exact absurd h (z S)
          · have := z S h
            omega
        · have e1 := h.2.2.2.2.2
          have := k2 e' (e1 ▸ h)
          omega
    · rw [h2 hx]
      rcases hI with ⟨z1, z⟩ | ⟨z1, z2, z⟩
      · exact Or.inl ⟨z1, fun S h => by
          rcases h with h | ⟨e, h⟩
          · exact z S h
          · exact hx ⟨e, h.2.2.2.2.2 ▸ h⟩⟩
      · exact Or.inr ⟨z1, Or.inl z2, fun S h => by
          rcases h with h | ⟨e, h⟩
          · exact z S h
          · exact absurd ⟨e, h.2.2.2.2.2 ▸ h⟩ hx⟩
  by_cases hlt : b < n
  · obtain ⟨E, hE, e1, e2⟩ := q_clawEnds (c := c) hw (show a < n by omega) hlt
    have hE' := ks_p14 hn hE
    rw [show (4 : Nat) = 4 from rfl] at *
    have hx : (∃ e, g_cl4 n T c a b e (ks_four c a b e)) ↔ E ≠ 0 := by
      rw [ks_ne0]
      constructor
      · rintro ⟨e, h⟩
        exact ⟨e, (e2 e).mpr ⟨h.2.2.1, h.2.2.2.2.1⟩⟩
      · rintro ⟨e, h⟩
        have := ks_bit_lt hE h
        obtain ⟨q1, q2⟩ := (e2 e).mp h
        exact ⟨e, by omega, by omega, q1, this, q2, rfl⟩
    have he : ∀ e, ks_fst E e → g_cl4 n T c a b e (ks_four c a b e) ∧ ks_four c a b e < 16384 ∧ ks_four c a b e ≠ 0 ∧ ∀ e', g_cl4 n T c a b e' (ks_four c a b e') → ks_four c a b e ≤ ks_four c a b e' := by
      intro e h
      have l := ks_bit_lt hE h.1
      obtain ⟨q1, q2⟩ := (e2 e).mp h.1
      have g : g_cl4 n T c a b e (ks_four c a b e) := ⟨by omega, by omega, q1, l, q2, rfl⟩
      refine ⟨g, ks_p14 hn (ks_four_lt (by omega) (by omega) hlt l), fun z => ?_, fun e' h' => ?_⟩
      · have := ks_four_bit (c := c) (a := a) (b := b) (e := e) (i := e)
        rw [z, Nat.zero_testBit] at this
        exact absurd (this.mpr (by omega)) (by decide)
      · have l' := h'.2.2.2.1
        have b' : E.testBit e' = true := (e2 e').mpr ⟨h'.2.2.1, h'.2.2.2.2.1⟩
        rcases Nat.lt_trichotomy e e' with q | q | q
        · refine Nat.le_of_lt (ks_ltb (i := e') ?_ (ks_four_bit.mpr (by omega)) fun j hj => ?_)
          · cases z : (ks_four c a b e).testBit e' with
            | false => rfl
            | true =>
              have := ks_four_bit.mp z
              have n3 := (g_cl4_ne hw h').2.2
              have := h'.2.2.1
              omega
          · rw [Bool.eq_iff_iff, ks_four_bit, ks_four_bit]
            omega
        · rw [q]
          exact Nat.le_refl _
        · have := h.2 e' q
          rw [b'] at this
          cases this
    have four : ∀ e, ks_fst E e → ((mm_shl 1 (nI c) ||| mm_shl 1 (nI a)) ||| mm_shl 1 (nI b)) ||| (nI E &&& -nI E) = nI (ks_four c a b e) := by
      intro e h
      rw [ks_neg (by omega) h, ks_shl1 _ (by omega), ks_shl1 _ (by omega), ks_shl1 _ (by omega), nx_or, nx_or, nx_or]
      rfl
    refine bX3_leastClaw_39 o.1 o.2 (by decide) (fun c3 => ?_) (fun _ c4 => ?_) (fun _ c4 c5 => ?_) (fun _ c4 c5 c6 => ?_) (fun _ c4 c5 c6 => ?_)
    · rw [ks_le (by omega) (by omega)] at c3
      omega
    · rw [e1, ks_eq0 (by omega)] at c4
      rw [nI_1]
      exact ih3 v hlt ⟨hv, next hlt v hv (fun h => absurd c4 (hx.mp h)) fun _ => rfl⟩
    · rw [e1, ks_eq0 (by omega)] at c4
      rw [ks_eq0 (by omega)] at c5
      obtain ⟨e, hf⟩ := ks_fst_ex c4
      obtain ⟨g1', g2', g3', g4'⟩ := he e hf
      rw [e1, four e hf, nI_1]
      exact ih3 _ hlt ⟨g2', next hlt _ g2' (fun _ => ⟨e, g1', g4', g3', Or.inl ⟨Or.inl c5, rfl⟩⟩) fun h => absurd (hx.mpr c4) h⟩
    · rw [e1, ks_eq0 (by omega)] at c4
      rw [ks_eq0 (by omega)] at c5
      obtain ⟨e, hf⟩ := ks_fst_ex c4
      obtain ⟨g1', g2', g3', g4'⟩ := he e hf
      rw [e1, four e hf, ks_le (by omega) (by omega)] at c6
      rw [nI_1]
      exact ih3 v hlt ⟨hv, next hlt v hv (fun _ => ⟨e, g1', g4', c5, Or.inr ⟨c5, c6, rfl⟩⟩) fun h => absurd (hx.mpr c4) h⟩
    · rw [e1, ks_eq0 (by omega)] at c4
      rw [ks_eq0 (by omega)] at c5
      obtain ⟨e, hf⟩ := ks_fst_ex c4
      obtain ⟨g1', g2', g3', g4'⟩ := he e hf
      rw [e1, four e hf, ks_le (by omega) (by omega)] at c6
      rw [e1, four e hf, nI_1]
      exact ih3 _ hlt ⟨g2', next hlt _ g2' (fun _ => ⟨e, g1', g4', g3', Or.inl ⟨Or.inr (by omega), rfl⟩⟩) fun h => absurd (hx.mpr c4) h⟩
  · obtain rfl : b = n := by omega
    have no : ¬ ¬ nI b ≤ nI b := fun h => h (Int32.le_refl _)
    refine bX3_leastClaw_39 o.1 o.2 (by decide) (fun c3 => ?_) (fun h => absurd h no) (fun h => absurd h no) (fun h => absurd h no) (fun h => absurd h no)
    rw [nI_1]
    refine ih2 _ (by omega) ⟨hv, g_mn_c hI fun S => ⟨?_, ?_⟩⟩
    · rintro ⟨c', a', b', e', h, q⟩
      have h2 := h.2.2.1
      have h3 := h.2.2.2.1
      exact ⟨c', a', b', e', h, by omega⟩
    · rintro ⟨c', a', b', e', h, q⟩
      exact ⟨c', a', b', e', h, by omega⟩
/-! the model's search -/
theorem s_isClawSet {M : mm_Mem} {F : Nat → Int32} {w : Int64} {n S : Nat} {T : Nat → Nat} (h : mo M F w) (o : ra M 33 n T) (hw : gw n T) (hS : S < 2 ^ n) (hp : ks_pop S = 4) : mm_S 3 mX10_isClawSet 0 0 [.ref 31, .int (nI S)] M (mm_Eq (some (.int (ks_b (g_clS n T S)))) M) := by
  have hn := hw.1
  have hS' := ks_p14 hn hS
  have f10 := h.r 10 33 (by decide)
  refine mm_S.of rfl rfl (Nat.le_of_ble_eq_true rfl) mm_ndi (bX10_isClawSet_0 ?_)
  refine srch (G := fun j => mm_X mX10_isClawSet 3 none (0, 0) 2 [.ref 31, .int (nI S), .int (nI j), .null, .null, .null, .null] [] M (mm_Eq (some (.int (ks_b (g_clS n T S)))) M)) (P := fun c => ∃ a b e, g_cl4 n T c a b e S) (Nat.zero_le n) ?_
  intro c _ hc hI ih
  refine bX10_isClawSet_2 o f10 (by decide) gk_in0 (fun c1 => ⟨?_, rfl⟩) (fun c1 c2 => ?_) (fun c1 c2 => ?_)
  · rw [gk_0, ks_le (by omega) (by omega)] at c1
    rw [ks_bf]
    rintro ⟨c', a, b, e, h⟩
    exact hI c' (Nat.zero_le _) (by have := h.1; omega) ⟨a, b, e, h⟩
  · rw [gk_0, ks_le (by omega) (by omega)] at c1
    rw [ks_mhas (by omega) (by omega), ks_b0, Classical.not_not] at c2
    obtain ⟨a, b, e, hd, hfour⟩ := ks_dec_ex hS' hp c2
    have bits : ∀ i, i = c ∨ i = a ∨ i = b ∨ i = e → i < n := fun i hi => ks_bit_lt hS (by rw [hfour]; exact ks_four_bit.mpr hi)
    have la := bits a (by omega)
    have lb := bits b (by omega)
    have le := bits e (by omega)
    obtain ⟨d1, d2⟩ := ks_dec_lt hS' hd
    have l1 := ks_nd_lt (a := 2 ^ c) hS'
    have l2 := ks_nd_lt (a := 2 ^ a) l1
    have l3 := ks_nd_lt (a := 2 ^ b) l2
    rw [ks_shl1 _ (by omega), ks_andn]
    refine mm_Call.eq (s_least l1 hd.1) (by decide) (bX10_isClawSet_35 ?_)
    rw [ks_shl1 _ (by omega), ks_andn]
    refine mm_Call.eq (s_least l2 hd.2.1) (by decide) (bX10_isClawSet_48 ?_)
    rw [ks_shl1 _ (by omega), ks_shl1 _ (by omega), ks_andn, ks_andn]
    refine mm_Call.eq (s_least l3 hd.2.2) (by decide) (bX10_isClawSet_68 o f10 (by decide) (gk_in1 (by omega)) (fun _ => gk_in1 (by omega)) (fun _ _ => gk_in1 (by omega)) (fun _ _ _ => gk_in1 (by omega)) (fun _ _ _ _ => gk_in1 (by omega)) (fun _ _ _ _ _ => gk_in1 (by omega)) (fun c3 => ?_) (fun c3 => ⟨?_, rfl⟩))
    · rw [q_isClaw hw (by omega) la lb le, ks_b0] at c3
      rw [nI_1]
      refine ih (by omega) ?_
      rintro ⟨a', b', e', g⟩
      have q := g_cl4_ne hw g
      have e9 := g.2.2.2.2.2
      have hd' := ks_dec_of (by rw [← e9]; exact hS') g.2.1 g.2.2.1 q.1 q.2.1 q.2.2
      rw [← e9] at hd'
      obtain rfl := ks_fst_u hd.1 hd'.1
      obtain rfl := ks_fst_u hd.2.1 hd'.2.1
      obtain rfl := ks_fst_u hd.2.2 hd'.2.2
      exact c3 g.2.2.2.2.1
    · rw [q_isClaw hw (by omega) la lb le, ks_b0, Classical.not_not] at c3
      rw [ks_bt (show g_clS n T S from ⟨c, a, b, e, by omega, d1, d2, le, c3, hfour⟩)]
  · rw [gk_0, ks_le (by omega) (by omega)] at c1
    rw [ks_mhas (by omega) (by omega), ks_b0] at c2
    rw [nI_1]
    refine ih (by omega) ?_
    rintro ⟨a, b, e, g⟩
    exact c2 (by rw [g.2.2.2.2.2]; exact ks_four_bit.mpr (Or.inl rfl))
theorem ks_pop15 : ∀ S, S < 15 → ks_pop S ≠ 4 := by decide +kernel
theorem g_clS_pop {n S : Nat} {T : Nat → Nat} (hw : gw n T) (h : g_clS n T S) : ks_pop S = 4 ∧ S < 2 ^ n := by
  have hn := hw.1
  obtain ⟨c, a, b, e, g⟩ := h
  have q := g_cl4_ne hw g
  obtain ⟨h1, h2, h3, h4, -, rfl⟩ := g
  exact ⟨ks_four_pop (by omega) (by omega) h2 h3 q.1 q.2.1 q.2.2, ks_four_lt h1 (by omega) (by omega) h4⟩
theorem mo.s0 {M : mm_Mem} {F : Nat → Int32} {w : Int64} (h : mo M F w) : mo (mm_upF M 31 0 (.int 0)) (upd F 0 0) w := h.set 0 0 (by decide)
theorem s_clawM {M : mm_Mem} {F : Nat → Int32} {w : Int64} {n : Nat} {T : Nat → Nat} (h : mo M F w) (o : ra M 33 n T) (hw : gw n T) : mm_S 4 mX10_claw 0 0 [.ref 31] M (fun r M' => M' = mm_upF M 31 0 (.int 0) ∧ ∃ v, r = some (.int (nI v)) ∧ g_mn (g_clS n T) v) := by
  have hn := hw.1
  have h0 := h.s0
  have o0 : ra (mm_upF M 31 0 (.int 0)) 33 n T := o.nF (by decide)
  have f10 := h0.r 10 33 (by decide)
  refine mm_S.of rfl rfl (Nat.le_of_ble_eq_true rfl) (fun r M' h x e => by obtain ⟨-, v, h, -⟩ := h; rw [h] at e; cases e) (bX10_claw_0 (h.i 0 (by decide)) ?_)
  have hm : 2 ^ n ≤ 16384 := Nat.pow_le_pow_right (n := 2) (by decide) hn
  have fin : (∀ S, S < 2 ^ n → ¬ g_clS n T S) → ∃ v, some (Value.int 0) = some (.int (nI v)) ∧ g_mn (g_clS n T) v := fun hh => ⟨0, rfl, Or.inl ⟨rfl, fun S hS => hh S (g_clS_pop hw hS).2 hS⟩⟩
  have small : ∀ S, S < 15 → ¬ g_clS n T S := fun S h1 h2 => ks_pop15 S h1 (g_clS_pop hw h2).1
  rw [show (15 : Int32) = nI 15 from rfl]
  by_cases hN : 15 ≤ 2 ^ n
  · refine srch (s := 15) (n := 2 ^ n) (G := fun j => mm_X mX10_claw 4 none (0, 0) 8 [.ref 31, .int (nI j)] [] (mm_upF M 31 0 (.int 0)) _) (P := g_clS n T) hN ?_
    intro S h15 hS hI ih
    have no : ∀ S', S' < S → ¬ g_clS n T S' := fun S' h1 h2 => by
      rcases Nat.lt_or_ge S' 15 with q | q
      · exact small S' q h2
      · exact hI S' q h1 h2
    refine bX10_claw_8 o0 f10 (by decide) gk_in0 (fun c => ⟨rfl, ?_⟩) (fun c => ?_)
    · rw [gk_0, ks_all n (by omega), ks_ltI (by omega) (by omega)] at c
      exact fin fun S' hS' => no S' (by omega)
    · rw [gk_0, ks_all n (by omega), ks_ltI (by omega) (by omega)] at c
      have lS : S < 2 ^ n := by omega
      refine mm_Call.eq (s_bits (ks_p14 hn lS)) (by decide) (bX10_claw_23 f10.rc (fun c1 => ?_) (fun c1 => ?_))
      · have := ks_pop_le S
        rw [show (4 : Int32) = nI 4 from rfl, ks_eqI (by omega) (by decide)] at c1
        rw [nI_1]
        exact ih lS fun q => c1 (g_clS_pop hw q).1
      · have := ks_pop_le S
        rw [show (4 : Int32) = nI 4 from rfl, ks_eqI (by omega) (by decide)] at c1
        refine mm_Call.eq (s_isClawSet h0 o0 hw lS c1) (by decide) (bX10_claw_32 (fun c2 => ?_) (fun c2 => ?_))
        · rw [ks_b0] at c2
          rw [nI_1]
          exact ih lS c2
        · rw [ks_b0, Classical.not_not] at c2
          refine ⟨rfl, S, rfl, Or.inr ⟨by omega, c2, fun S' h' => ?_⟩⟩
          rcases Nat.lt_or_ge S' S with q | q
          · exact absurd h' (no S' q)
          · exact q
  · refine bX10_claw_8 o0 f10 (by decide) gk_in0 (fun c => ⟨rfl, fin fun S hS => small S (by omega)⟩) (fun c => ?_)
    rw [gk_0, ks_all n (by omega), ks_ltI (by omega) (by omega)] at c
    omega
