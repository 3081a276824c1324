/-! COLOURS: the first colouring with the fewest -/
abbrev cu (c : Nat → Nat) (p d : Nat) : Nat → Nat := fun q => if q = p then d else c q
theorem cu_s {c : Nat → Nat} {p d : Nat} : cu c p d p = d := if_pos rfl
theorem cu_n {c : Nat → Nat} {p d q : Nat} (h : q ≠ p) : cu c p d q = c q := if_neg h
def prp (n : Nat) (T : Nat → Nat) (k : Nat) (g : Nat → Nat) : Prop := ∀ p, p < n → g p < k ∧ ∀ q, q < p → (T p).testBit q = true → g q ≠ g p
def cE (n : Nat) (T : Nat → Nat) (k p : Nat) (c : Nat → Nat) : Prop := ∃ g, prp n T k g ∧ ∀ q, q < p → g q = c q
theorem cE_c {n k p : Nat} {T c c' : Nat → Nat} (h : cE n T k p c) (e : ∀ q, q < p → c q = c' q) : cE n T k p c' := by
  obtain ⟨g, h1, h2⟩ := h
  exact ⟨g, h1, fun q hq => (h2 q hq).trans (e q hq)⟩
def cL (n : Nat) (T : Nat → Nat) (k p : Nat) (c g : Nat → Nat) : Prop := prp n T k g ∧ (∀ q, q < p → g q = c q) ∧ ∀ r, p ≤ r → r < n → ∀ d, d < g r → ¬ cE n T k (r + 1) (cu g r d)
theorem cL_s {n k p d : Nat} {T c g : Nat → Nat} (h : cL n T k (p + 1) (cu c p d) g) (hd : ∀ d', d' < d → ¬ cE n T k (p + 1) (cu c p d')) : cL n T k p c g := by
  obtain ⟨h1, h2, h3⟩ := h
  have e : ∀ q, q < p → g q = c q := fun q hq => by rw [h2 q (by omega), cu_n (by omega)]
  refine ⟨h1, e, fun r hr hn d' hd' => ?_⟩
  rcases Nat.lt_or_ge p r with q | q
  · exact h3 r q hn d' hd'
  · obtain rfl : r = p := by omega
    rw [h2 r (by omega), cu_s] at hd'
    intro q
    refine hd d' hd' (cE_c q fun x hx => ?_)
    by_cases u : x = r
    · subst u
      rw [cu_s, cu_s]
    · rw [cu_n u, cu_n u]
      exact e x (by omega)
theorem cL_u {n k : Nat} {T c g g' : Nat → Nat} (h : cL n T k 0 c g) (h' : cL n T k 0 c g') : ∀ m p, p < m → p < n → g p = g' p := by
  intro m
  induction m with
  | zero => intro p hp; omega
  | succ m ih =>
    intro p hp hn
    have w : ∀ {x y : Nat → Nat}, prp n T k x → (∀ q, q < p → x q = y q) → cE n T k (p + 1) (cu y p (x p)) := fun {x y} hx e => ⟨x, hx, fun q hq => by
      by_cases u : q = p
      · subst u
        rw [cu_s]
      · rw [cu_n u]
        exact e q (by omega)⟩
    have e : ∀ q, q < p → g q = g' q := fun q hq => ih q (by omega) (by omega)
    rcases Nat.lt_trichotomy (g p) (g' p) with q | q | q
    · exact absurd (w h.1 e) (h'.2.2 p (Nat.zero_le p) hn _ q)
    · exact q
    · exact absurd (w h'.1 fun q hq => (e q hq).symm) (h.2.2 p (Nat.zero_le p) hn _ q)
/-- all that can stand at p is tried -/
theorem cE_all {n k p : Nat} {T c : Nat → Nat} (hp : p < n) (h : ∀ d, d < k → ¬ cE n T k (p + 1) (cu c p d)) : ¬ cE n T k p c := by
  rintro ⟨g, h1, h2⟩
  refine h (g p) (h1 p hp).1 ⟨g, h1, fun q hq => ?_⟩
  by_cases u : q = p
  · subst u
    rw [cu_s]
  · rw [cu_n u]
    exact h2 q (by omega)
/-- of the colours not used yet the least alone is tried -/
theorem cE_used {n k p u : Nat} {T c : Nat → Nat} (hp : p < n) (hu : ∀ q, q < p → c q < u) (h : ∀ d, d ≤ u → d < k → ¬ cE n T k (p + 1) (cu c p d)) : ¬ cE n T k p c := by
  refine cE_all hp fun d hd => ?_
  rcases Nat.lt_or_ge u d with q | q
  · rintro ⟨g, h1, h2⟩
    have gp : g p = d := (h2 p (by omega)).trans cu_s
    refine h u (Nat.le_refl u) (by omega) ⟨fun x => if g x = d then u else if g x = u then d else g x, fun x hx => ⟨?_, fun y hy ht => ?_⟩, fun x hx => ?_⟩
    · have := (h1 x hx).1
      show (if g x = d then u else if g x = u then d else g x) < k
      split
      · omega
      · split
        · exact hd
        · exact this
    · have := (h1 x hx).2 y hy ht
      show (if g y = d then u else if g y = u then d else g y) ≠ (if g x = d then u else if g x = u then d else g x)
      split <;> split <;> (try split) <;> (try split) <;> omega
    · by_cases e : x = p
      · subst e
        show (if g x = d then u else if g x = u then d else g x) = _
        rw [if_pos gp, cu_s]
      · have e1 : g x = c x := (h2 x hx).trans (cu_n e)
        have := hu x (by omega)
        show (if g x = d then u else if g x = u then d else g x) = _
        rw [cu_n e, if_neg (by omega), if_neg (by omega), e1]
  · exact h d q hd
theorem cE_no {n k p d : Nat} {T c : Nat → Nat} (hp : p < n) {q : Nat} (hq : q < p) (ht : (T p).testBit q = true) (e : c q = d) : ¬ cE n T k (p + 1) (cu c p d) := by
  rintro ⟨g, h1, h2⟩
  refine (h1 p hp).2 q hq ht ?_
  rw [h2 q (by omega), h2 p (by omega), cu_s, cu_n (by omega), e]
/-- a part of a colouring -/
def prf (T : Nat → Nat) (k p : Nat) (c : Nat → Nat) : Prop := ∀ x, x < p → c x < k ∧ ∀ q, q < x → (T x).testBit q = true → c q ≠ c x
theorem prf_0 {T : Nat → Nat} {k : Nat} {c : Nat → Nat} : prf T k 0 c := fun x hx => absurd hx (Nat.not_lt_zero x)
theorem prf_s {T : Nat → Nat} {k p d : Nat} {c : Nat → Nat} (h : prf T k p c) (hd : d < k) (hn : ∀ q, q < p → (T p).testBit q = true → c q ≠ d) : prf T k (p + 1) (cu c p d) := by
  intro x hx
  by_cases e : x = p
  · subst e
    rw [cu_s]
    exact ⟨hd, fun q hq ht => by rw [cu_n (by omega)]; exact hn q hq ht⟩
  · rw [cu_n e]
    exact ⟨(h x (by omega)).1, fun q hq ht => by rw [cu_n (by omega)]; exact (h x (by omega)).2 q hq ht⟩
theorem prf_end {n k : Nat} {T c : Nat → Nat} (h : prf T k n c) : cL n T k n c c := ⟨h, fun _ _ => rfl, fun r h1 h2 => by omega⟩
theorem cE_of {n k p : Nat} {T c g : Nat → Nat} (h : cL n T k p c g) : cE n T k p c := ⟨g, h.1, h.2.1⟩
/-- the fewest colours -/
def c0 : Nat → Nat := fun _ => 0
def cK (n : Nat) (T : Nat → Nat) (k : Nat) : Prop := cE n T k 0 c0 ∧ ∀ j, j < k → ¬ cE n T j 0 c0
theorem cK_u {n : Nat} {T : Nat → Nat} : ∀ a b, cK n T a → cK n T b → a = b := by
  intro a b h h'
  rcases Nat.lt_trichotomy a b with q | q | q
  · exact absurd h.1 (h'.2 a q)
  · exact q
  · exact absurd h'.1 (h.2 b q)
theorem cE_n {n : Nat} {T : Nat → Nat} : cE n T n 0 c0 := ⟨fun p => p, fun p hp => ⟨hp, fun q hq _ => Nat.ne_of_lt hq⟩, fun q hq => absurd hq (Nat.not_lt_zero q)⟩
def cA (n : Nat) (T : Nat → Nat) (p v : Nat) : Prop := ∃ k g, cK n T k ∧ cL n T k 0 c0 g ∧ g p = v
theorem cA_u {n p : Nat} {T : Nat → Nat} (hp : p < n) : ∀ a b, cA n T p a → cA n T p b → a = b := by
  rintro a b ⟨k, g, h1, h2, rfl⟩ ⟨k', g', h1', h2', rfl⟩
  have := cK_u k k' h1 h1'
  subst this
  exact cL_u h2 h2' (p + 1) p (by omega) hp
/-- points of a clump need colours of their own -/
theorem cq_pig {g : Nat → Nat} : ∀ (k S : Nat), S < 16384 → (∀ p, S.testBit p = true → g p < k) → (∀ p q, S.testBit p = true → S.testBit q = true → p ≠ q → g p ≠ g q) → ks_pop S ≤ k := by
  intro k
  induction k with
  | zero =>
    intro S _ h _
    rw [show S = 0 from ks_zero.mpr fun i => by
      cases e : S.testBit i with
      | false => rfl
      | true => exact absurd (h i e) (Nat.not_lt_zero _), ks_pop00]
    exact Nat.le_refl 0
  | succ k ih =>
    intro S hS h hi
    by_cases e : ∃ p, S.testBit p = true ∧ g p = k
    · obtain ⟨p, e1, e2⟩ := e
      have := ih (ks_nd S (2 ^ p)) (ks_nd_lt hS) (fun q hq => ?_) (fun a b ha hb => hi a b ((ks_nd1t hS).mp ha).1 ((ks_nd1t hS).mp hb).1)
      · have := ks_pop_nd hS e1
        omega
      · obtain ⟨h1, h2⟩ := (ks_nd1t hS).mp hq
        have := h q h1
        have := hi p q e1 h1 h2
        omega
    · exact Nat.le_succ_of_le (ih S hS (fun p hp => by
        have := h p hp
        have : g p ≠ k := fun q => e ⟨p, hp, q⟩
        omega) hi)
theorem cE_cq {n k j : Nat} {T : Nat → Nat} (hw : gw n T) (h : mx (gF true n T) (2 ^ n - 1) k) (hj : j < k) : ¬ cE n T j 0 c0 := by
  rintro ⟨g, h1, -⟩
  obtain ⟨⟨S, s1, s2, s3⟩, -⟩ := h
  have hS : S < 2 ^ n := ks_sub_lt s1 (ks_am n)
  have hT : gF true n T = T := by funext p; exact if_pos rfl
  rw [hT] at s2
  have := cq_pig (g := g) j S (ks_p14 hw.1 hS) (fun p hp => (h1 p (ks_bit_lt hS hp)).1) (fun p q hp hq hn => ?_)
  · omega
  · rcases Nat.lt_or_ge p q with u | u
    · exact (h1 q (ks_bit_lt hS hq)).2 p u (s2 q p hq hp (Ne.symm hn))
    · exact Ne.symm ((h1 p (ks_bit_lt hS hp)).2 q (by omega) (s2 p q hp hq hn))
noncomputable def o_colours : g_st → Int32 × g_st
  | (n, T, L, K, t, f, fk) => (nI (g_the (cK n T)), (n, T, L, K, t, f, fk))
noncomputable def o_colourAt : g_st → Int32 → Int32 × g_st
  | (n, T, L, K, t, f, fk), x => (pif (∃ p, p < n ∧ x = nI p) (nI (g_the (cA n T x.toNatClampNeg))) (-1), (n, T, L, K, t, f, fk))
