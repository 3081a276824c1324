/-! TO MEET -/
noncomputable def ks_set (P : Nat → Prop) : Nat → Nat
  | 0 => 0
  | n + 1 => ks_set P n ||| g1 (P n) * 2 ^ n
theorem ks_set_bit {P : Nat → Prop} {i : Nat} : ∀ {n : Nat}, (ks_set P n).testBit i = true ↔ (i < n ∧ P i)
  | 0 => by
    show (0 : Nat).testBit i = true ↔ _
    rw [Nat.zero_testBit]
    exact ⟨fun h => (by cases h), fun h => absurd h.1 (Nat.not_lt_zero i)⟩
  | n + 1 => by
    show (ks_set P n ||| g1 (P n) * 2 ^ n).testBit i = true ↔ _
    rw [Nat.testBit_or, Bool.or_eq_true, ks_set_bit (n := n)]
    by_cases h : P n
    · rw [g1_t h, Nat.one_mul, ks_p2, decide_eq_true_eq]
      constructor
      · rintro (q | q)
        · exact ⟨by omega, q.2⟩
        · exact ⟨by omega, q ▸ h⟩
      · rintro ⟨q1, q2⟩
        by_cases e : n = i
        · exact Or.inr e
        · exact Or.inl ⟨by omega, q2⟩
    · rw [g1_f h, Nat.zero_mul, Nat.zero_testBit]
      constructor
      · rintro (q | q)
        · exact ⟨by omega, q.2⟩
        · cases q
      · rintro ⟨q1, q2⟩
        refine Or.inl ⟨?_, q2⟩
        by_cases e : i = n
        · exact absurd (e ▸ q2) h
        · omega
theorem ks_set_lt {P : Nat → Prop} {n : Nat} : ks_set P n < 2 ^ n := ks_lt fun i hi => (ks_set_bit.mp hi).1
/-- two pairs have a point in common -/
def g_shp (q r : Nat × Nat) : Prop := q.1 = r.1 ∨ q.1 = r.2 ∨ q.2 = r.1 ∨ q.2 = r.2
def g_sh (L : g_prs) (i j : Nat) : Prop := ∃ q r, L[i]? = some q ∧ L[j]? = some r ∧ g_shp q r
theorem g_sh_c {L : g_prs} {i j : Nat} : g_sh L i j ↔ g_sh L j i := by
  constructor
  · rintro ⟨q, r, h1, h2, h⟩
    exact ⟨r, q, h2, h1, by unfold g_shp at *; omega⟩
  · rintro ⟨q, r, h1, h2, h⟩
    exact ⟨r, q, h2, h1, by unfold g_shp at *; omega⟩
/-- the first l lines met -/
noncomputable def g_mt (L : g_prs) (l : Nat) : Nat → Nat := fun p => if p < l then ks_set (fun m => m ≠ p ∧ g_sh L p m) l else 0
theorem g_mt_bit {L : g_prs} {l p m : Nat} : (g_mt L l p).testBit m = true ↔ (p < l ∧ m < l ∧ m ≠ p ∧ g_sh L p m) := by
  unfold g_mt
  by_cases h : p < l
  · rw [if_pos h, ks_set_bit]
    exact ⟨fun q => ⟨h, q⟩, fun q => q.2⟩
  · rw [if_neg h, Nat.zero_testBit]
    exact ⟨fun q => (by cases q), fun q => absurd q.1 h⟩
theorem gw_mt {L : g_prs} {l : Nat} (hl : l ≤ 14) : gw l (g_mt L l) := by
  refine ⟨hl, fun p => ?_, fun p hp => ?_, fun p q => ?_, fun p => ?_⟩
  · exact ks_lt fun i hi => (g_mt_bit.mp hi).2.1
  · unfold g_mt
    rw [if_neg (by omega)]
  · rw [Bool.eq_iff_iff, g_mt_bit, g_mt_bit, g_sh_c]
    constructor
    · rintro ⟨h1, h2, h3, h4⟩
      exact ⟨h2, h1, Ne.symm h3, h4⟩
    · rintro ⟨h1, h2, h3, h4⟩
      exact ⟨h2, h1, Ne.symm h3, h4⟩
  · cases h : (g_mt L l p).testBit p with
    | false => rfl
    | true => exact absurd rfl (g_mt_bit.mp h).2.2.1
theorem g_mt_add {L : g_prs} {l S : Nat} (hS : ∀ m, S.testBit m = true ↔ (m < l ∧ g_sh L l m)) : g_add l (g_mt L l) S = g_mt L (l + 1) := by
  funext p
  apply ks_ext
  intro i
  rw [Bool.eq_iff_iff, g_mt_bit]
  unfold g_add
  by_cases h : p = l
  · subst h
    rw [if_pos rfl, hS]
    constructor
    · rintro ⟨h1, h2⟩
      exact ⟨by omega, by omega, by omega, h2⟩
    · rintro ⟨h1, h2, h3, h4⟩
      exact ⟨by omega, h4⟩
  · rw [if_neg h]
    by_cases h2 : S.testBit p = true
    · rw [if_pos h2, Nat.testBit_or, Bool.or_eq_true, g_mt_bit, ks_p2, decide_eq_true_eq]
      have hs := (hS p).mp h2
      constructor
      · rintro (⟨q1, q2, q3, q4⟩ | q)
        · exact ⟨by omega, by omega, q3, q4⟩
        · subst q
          exact ⟨by omega, by omega, by omega, g_sh_c.mp hs.2⟩
      · rintro ⟨q1, q2, q3, q4⟩
        by_cases e : l = i
        · exact Or.inr e
        · exact Or.inl ⟨by omega, by omega, q3, q4⟩
    · rw [if_neg h2, g_mt_bit]
      constructor
      · rintro ⟨q1, q2, q3, q4⟩
        exact ⟨by omega, by omega, q3, q4⟩
      · rintro ⟨q1, q2, q3, q4⟩
        refine ⟨by omega, ?_, q3, q4⟩
        rcases Nat.lt_or_ge i l with e | e
        · exact e
        · obtain rfl : i = l := by omega
          exact absurd ((hS p).mpr ⟨by omega, g_sh_c.mp q4⟩) h2
theorem ks_two {a b c d : Nat} : (2 ^ a ||| 2 ^ b) &&& (2 ^ c ||| 2 ^ d) = 0 ↔ ¬ g_shp (a, b) (c, d) := by
  rw [ks_zero]
  unfold g_shp
  constructor
  · intro h q
    have bit : ∀ i, ¬ ((a = i ∨ b = i) ∧ (c = i ∨ d = i)) := by
      rintro i ⟨h1, h2⟩
      have := h i
      rw [Nat.testBit_and, Nat.testBit_or, Nat.testBit_or, ks_p2, ks_p2, ks_p2, ks_p2] at this
      rcases h1 with h1 | h1 <;> rcases h2 with h2 | h2 <;> simp [h1, h2] at this
    dsimp only at q
    rcases q with q | q | q | q
    · exact bit a ⟨Or.inl rfl, Or.inl q.symm⟩
    · exact bit a ⟨Or.inl rfl, Or.inr q.symm⟩
    · exact bit b ⟨Or.inr rfl, Or.inl q.symm⟩
    · exact bit b ⟨Or.inr rfl, Or.inr q.symm⟩
  · intro h i
    cases e : ((2 ^ a ||| 2 ^ b) &&& (2 ^ c ||| 2 ^ d)).testBit i with
    | false => rfl
    | true =>
      rw [Nat.testBit_and, Nat.testBit_or, Nat.testBit_or, ks_p2, ks_p2, ks_p2, ks_p2] at e
      simp only [Bool.and_eq_true, Bool.or_eq_true, decide_eq_true_eq] at e
      dsimp only at h
      omega
/-! the class -/
theorem s_endsOf' {M : mm_Mem} {k n i : Nat} {T : Nat → Nat} {q : Nat × Nat} (o : na M k n T) (hw : gw n T) (hq : (gl n T)[i]? = some q) : mm_S 2 mX3_endsOf 0 0 [.ref k, .int (nI i)] M (mm_Eq (some (.int (nI (2 ^ q.1 ||| 2 ^ q.2)))) M) := by
  have hl := gl_len (T := T) hw.1
  have hi := (List.getElem?_eq_some_iff.mp hq).1
  refine mm_S.mono (s_endsOf (x := nI i) o hw) ?_
  rintro r M' (⟨j, a, b, h1, h2, h3, h4⟩ | ⟨h1, -⟩)
  · have hj := (List.getElem?_eq_some_iff.mp h2).1
    rw [ks_eqI (by omega) (by omega)] at h1
    subst h1
    rw [hq] at h2
    cases h2
    exact ⟨h3, h4⟩
  · exact absurd ⟨i, hi, rfl⟩ h1
theorem s_becomeMeetingOf {M : mm_Mem} {n n3 : Nat} {T T3 : Nat → Nat} (o : na M 1 n T) (hw : gw n T) (o3 : na M 3 n3 T3) (hw3 : gw n3 T3) (hl : (gl n T).length ≤ 14) : mm_S 3 mX3_becomeMeetingOf 0 0 [.ref 3, .ref 1] M (mm_Eq none (mm_net M 3 (gl n T).length (g_mt (gl n T) (gl n T).length))) := by
  have hn := hw.1
  refine mm_S.of rfl rfl (Nat.le_of_ble_eq_true rfl) mm_ndn (bX3_becomeMeetingOf_0 o3.1 ?_)
  rw [show (0 : Int32) = nI 0 from rfl]
  refine mm_Call.eq (s_clear o3 (gw_z hw3) (Nat.zero_le 14)) (by decide) ?_
  have oo : ∀ l F, na (mm_net M 3 l F) 1 n T := fun l F => o.net (by decide) (by decide) (by decide)
  refine bX3_becomeMeetingOf_5 (oo _ _).1 (mm_Call.eq (s_lines (oo _ _) hw) (by decide) (bX3_becomeMeetingOf_9 (by decide) ?_))
  rw [g_lines_len hw, ks_14, if_neg (by rw [ks_ltI (by decide) (by omega)]; omega), show (fun _ : Nat => 0) = g_mt (gl n T) 0 from funext fun p => by unfold g_mt; rw [if_neg (Nat.not_lt_zero p)]]
  refine fld (s := 0) (n := (gl n T).length) (G := fun l (_ : Unit) => mm_X mX3_becomeMeetingOf 3 none (0, 0) 17 [.ref 3, .ref 1, .int (nI (gl n T).length), .int (nI l), .null, .null, .null] [] (mm_net M 3 l (g_mt (gl n T) l)) _) (v0 := ()) (I := fun _ _ => True) (Nat.zero_le _) trivial ?_
  intro l _ _ hlen _ ih
  refine bX3_becomeMeetingOf_17 (oo _ _).1 (fun c => ⟨rfl, ?_⟩) (fun c => ?_)
  · rw [ks_le (by omega) (by omega)] at c
    obtain rfl : l = (gl n T).length := by omega
    rfl
  rw [ks_le (by omega) (by omega)] at c
  have lt : l < (gl n T).length := by omega
  obtain ⟨q, hq⟩ : ∃ q, (gl n T)[l]? = some q := ⟨_, List.getElem?_eq_getElem lt⟩
  have bq := gl_at hq
  refine mm_Call.eq (s_endsOf' (oo _ _) hw hq) (by decide) (bX3_becomeMeetingOf_27 ?_)
  refine fld (s := 0) (G := fun m S => mm_X mX3_becomeMeetingOf 3 none (0, 0) 35 [.ref 3, .ref 1, .int (nI (gl n T).length), .int (nI l), .int (nI (2 ^ q.1 ||| 2 ^ q.2)), .int (nI S), .int (nI m)] [] (mm_net M 3 l (g_mt (gl n T) l)) _) (I := fun m S => S < 2 ^ l ∧ ∀ i, S.testBit i = true ↔ (i < m ∧ g_sh (gl n T) l i)) (Nat.zero_le l) ⟨Nat.pow_pos (by decide), fun i => by rw [Nat.zero_testBit]; exact ⟨fun h => (by cases h), fun h => absurd h.1 (Nat.not_lt_zero i)⟩⟩ ?_
  rintro m S _ hm ⟨hS, hb⟩ ih2
  have q3 : na (mm_net M 3 l (g_mt (gl n T) l)) 3 l (g_mt (gl n T) l) := mm_net_na (by decide)
  refine bX3_becomeMeetingOf_35 q3.1 (oo _ _).1 (fun c2 => ?_) (fun c2 => ?_)
  · rw [ks_le (by omega) (by omega)] at c2
    obtain rfl : m = l := by omega
    refine mm_Call.eq (s_add q3 (gw_mt (by omega)) (by omega) hS) (by decide) (bX3_becomeMeetingOf_74 ?_)
    rw [nI_1, mm_net_net, g_mt_add hb]
    exact ih () lt trivial
  · rw [ks_le (by omega) (by omega)] at c2
    obtain ⟨r, hr⟩ : ∃ r, (gl n T)[m]? = some r := ⟨_, List.getElem?_eq_getElem (show m < (gl n T).length by omega)⟩
    have br := gl_at hr
    have sh : g_sh (gl n T) l m ↔ g_shp r q := by
      constructor
      · rintro ⟨q', r', h1, h2, h⟩
        rw [hq] at h1
        rw [hr] at h2
        cases h1
        cases h2
        unfold g_shp at *
        omega
      · intro h
        exact ⟨q, r, hq, hr, by unfold g_shp at *; omega⟩
    have lr : 2 ^ r.1 ||| 2 ^ r.2 < 2 ^ n := ks_or_lt (ks_p2_lt (by omega)) (ks_p2_lt (by omega))
    have lq : (2 ^ r.1 ||| 2 ^ r.2) &&& (2 ^ q.1 ||| 2 ^ q.2) < 2 ^ n := ks_and_lt lr
    have lq' := ks_p14 hn lq
    refine mm_Call.eq (s_endsOf' (oo _ _) hw hr) (by decide) (bX3_becomeMeetingOf_47 (fun c3 => ?_) (fun c3 => ?_))
    · rw [nx_and, ks_eq0 (by omega), ks_two] at c3
      rw [nI_1]
      refine ih2 S (by omega) ⟨hS, fun i => ?_⟩
      rw [hb i]
      constructor
      · rintro ⟨h1, h2⟩
        exact ⟨by omega, h2⟩
      · rintro ⟨h1, h2⟩
        refine ⟨?_, h2⟩
        by_cases e : i = m
        · subst e
          exact absurd (sh.mp h2) c3
        · omega
    · rw [nx_and, ks_eq0 (by omega), ks_two, Classical.not_not] at c3
      rw [nI_1, ks_shl1 _ (by omega), nx_or]
      refine ih2 _ (by omega) ⟨ks_or_lt hS (ks_p2_lt (by omega)), fun i => ?_⟩
      rw [Nat.testBit_or, Bool.or_eq_true, hb i, ks_p2, decide_eq_true_eq]
      constructor
      · rintro (⟨h1, h2⟩ | rfl)
        · exact ⟨by omega, h2⟩
        · exact ⟨by omega, sh.mpr c3⟩
      · rintro ⟨h1, h2⟩
        by_cases e : m = i
        · exact Or.inr e
        · exact Or.inl ⟨by omega, h2⟩
/-! the model -/
def g_bef (l m p q : Nat) : Prop := (p < q ∧ (p < l ∨ (p = l ∧ q < m))) ∨ (q < p ∧ (q < l ∨ (q = l ∧ p < m)))
def g_mi (L : g_prs) (l m : Nat) (F : Nat → Nat) : Prop := (∀ p, F p < 16384) ∧ ∀ p q, (F p).testBit q = true ↔ (p < L.length ∧ q < L.length ∧ g_sh L p q ∧ g_bef l m p q)
theorem g_mi_c {L : g_prs} {l m l' m' : Nat} {F : Nat → Nat} (h : g_mi L l m F) (e : ∀ p q, p < L.length → q < L.length → (g_bef l' m' p q ↔ g_bef l m p q)) : g_mi L l' m' F := by
  refine ⟨h.1, fun p q => ?_⟩
  rw [h.2]
  constructor
  · rintro ⟨h1, h2, h3, h4⟩
    exact ⟨h1, h2, h3, (e p q h1 h2).mpr h4⟩
  · rintro ⟨h1, h2, h3, h4⟩
    exact ⟨h1, h2, h3, (e p q h1 h2).mp h4⟩
theorem g_mi_end {L : g_prs} {F : Nat → Nat} (h : g_mi L L.length 0 F) : F = g_mt L L.length := by
  funext p
  apply ks_ext
  intro q
  rw [Bool.eq_iff_iff, h.2, g_mt_bit]
  unfold g_bef
  constructor
  · rintro ⟨h1, h2, h3, h4⟩
    exact ⟨h1, h2, by omega, h3⟩
  · rintro ⟨h1, h2, h3, h4⟩
    exact ⟨h1, h2, h4, by omega⟩
theorem g_mi_s {L : g_prs} {l m : Nat} {F : Nat → Nat} (h : g_mi L l m F) (hl : l < m) (hm : m < L.length) (h14 : L.length ≤ 14) (hs : g_sh L l m) : g_mi L l (m + 1) (g_flip F l m) := by
  have f1 : (F l).testBit m = false := by
    cases e : (F l).testBit m with
    | false => rfl
    | true =>
      have := ((h.2 l m).mp e).2.2.2
      unfold g_bef at this
      omega
  have f2 : (F m).testBit l = false := by
    cases e : (F m).testBit l with
    | false => rfl
    | true =>
      have := ((h.2 m l).mp e).2.2.2
      unfold g_bef at this
      omega
  have lt : ∀ i, i < 14 → 2 ^ i < 16384 := fun i hi => ks_p2_lt (n := 14) hi
  refine ⟨fun p => ?_, fun p q => ?_⟩
  · unfold g_flip
    split
    · exact ks_xor_lt (n := 14) (h.1 _) (lt l (by omega))
    · split
      · exact ks_xor_lt (n := 14) (h.1 _) (lt m (by omega))
      · exact h.1 _
  · unfold g_flip
    by_cases e1 : p = m
    · subst e1
      rw [if_pos rfl, Nat.testBit_xor, ks_p2]
      by_cases e2 : l = q
      · subst e2
        rw [f2, decide_eq_true rfl]
        exact ⟨fun _ => ⟨hm, by omega, g_sh_c.mp hs, by unfold g_bef; omega⟩, fun _ => rfl⟩
      · rw [decide_eq_false e2, Bool.xor_false, h.2]
        have : g_bef l (p + 1) p q ↔ g_bef l p p q := by unfold g_bef; omega
        rw [this]
    · rw [if_neg e1]
      by_cases e3 : p = l
      · subst e3
        rw [if_pos rfl, Nat.testBit_xor, ks_p2]
        by_cases e2 : m = q
        · subst e2
          rw [f1, decide_eq_true rfl]
          exact ⟨fun _ => ⟨by omega, hm, hs, by unfold g_bef; omega⟩, fun _ => rfl⟩
        · rw [decide_eq_false e2, Bool.xor_false, h.2]
          have : g_bef p (m + 1) p q ↔ g_bef p m p q := by unfold g_bef; omega
          rw [this]
      · rw [if_neg e3, h.2]
        have : g_bef l (m + 1) p q ↔ g_bef l m p q := by unfold g_bef; omega
        rw [this]
theorem g_mi_n {L : g_prs} {l m : Nat} {F : Nat → Nat} (h : g_mi L l m F) (hl : l < m) (hs : ¬ g_sh L l m) : g_mi L l (m + 1) F := by
  refine ⟨h.1, fun p q => ?_⟩
  rw [h.2]
  constructor
  · rintro ⟨h1, h2, h3, h4⟩
    exact ⟨h1, h2, h3, by unfold g_bef at *; omega⟩
  · rintro ⟨h1, h2, h3, h4⟩
    refine ⟨h1, h2, h3, ?_⟩
    by_cases e : p = l ∧ q = m
    · exact absurd (e.1 ▸ e.2 ▸ h3) hs
    · by_cases e2 : p = m ∧ q = l
      · exact absurd (g_sh_c.mp (e2.1 ▸ e2.2 ▸ h3)) hs
      · unfold g_bef at *
        omega
