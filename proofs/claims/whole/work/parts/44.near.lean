/-! NEAR AND LINE: they may throw -/
def xr : Option Int32 → Option Value
  | some v => some (.int v)
  | none => mm_thrown
def o_near : g_st → Int32 → Option Int32
  | (n, T, _), x => if x.toNatClampNeg < n ∧ x = nI x.toNatClampNeg then some (nI (T x.toNatClampNeg)) else none
def xC (M : mm_Mem) (σ : g_st) (o : Option Int32) (r : Option Value) (M' : mm_Mem) : Prop := r = xr o ∧ CS M' σ ∧ fC M M'
theorem xC_near {M : mm_Mem} {σ : g_st} {x : Int32} {sc : mm_SC} {z : Nat × Nat} (h : CS M σ) : mm_X mX9_near 2 sc z 0 [.ref 0, .int x] [] M (xC M σ (o_near σ x)) := by
  obtain ⟨n, T, L, K, t, f, fk⟩ := σ
  obtain ⟨⟨pf, sd, h1, h2⟩, h3, h4, -⟩ := id h
  have hn := h4.1
  refine bX9_near_0 h3.1 h3.2 (h1.r 0 1 (by decide)) (by decide) (fun c => ?_) (fun c => ?_)
  · rw [q_holds hn, ks_b0, Classical.not_not] at c
    obtain ⟨p, hp, rfl⟩ := c
    refine ⟨?_, h, fun _ _ => rfl⟩
    dsimp only [o_near]
    rw [nI_clamp (by omega), if_pos ⟨hp, rfl⟩, ks_at (by decide) (by omega)]
    rfl
  · rw [q_holds hn, ks_b0] at c
    refine ⟨?_, h, fun _ _ => rfl⟩
    dsimp only [o_near]
    rw [if_neg fun q => c ⟨_, q⟩]
    rfl
/-- what the model answers, and whether it has thrown -/
def xM (M : mm_Mem) (σ : g_st) (o : Option Int32) (r : Option Value) (M' : mm_Mem) : Prop := r = some (.int (o.getD 0)) ∧ MT M' (if o = none then 1 else 0) σ ∧ fM M M'
theorem xM_nd {M : mm_Mem} {σ : g_st} {o : Option Int32} : ∀ (r : Option Value) (M' : mm_Mem), xM M σ o r M' → ∀ x, r ≠ some (.double x) := fun r M' h x e => by rw [h.1] at e; cases e
theorem MT.th1 {M : mm_Mem} {th : Int32} {σ : g_st} (h : MT M th σ) : MT (mm_upF M 31 0 (.int 1)) 1 σ := by
  obtain ⟨n, T, L, K, t, f, fk⟩ := σ
  obtain ⟨⟨F, w, m1, m2⟩, -⟩ := id h
  have := h.scr m1 (m1.set 0 1 (by decide)) (pk_un (by decide)) (pk_un (by decide)) (pk_un (by decide)) (fun j h1 => mm_upF_n (by omega)) (h.msc.eq fun j _ _ _ _ _ => mm_upF_n (by omega))
  rwa [pk_us] at this
theorem sM_near {M : mm_Mem} {σ : g_st} {x : Int32} (h : MS M σ) : mm_S 2 mX10_near 0 0 [.ref 31, .int x] M (xM M σ (o_near σ x)) := by
  obtain ⟨n, T, L, K, t, f, fk⟩ := σ
  obtain ⟨th, h⟩ := h
  obtain ⟨F, w, m1, m2⟩ := h.mo
  obtain ⟨o, hw⟩ := h.now
  have hn := hw.1
  refine mm_S.of rfl rfl (Nat.le_of_ble_eq_true rfl) xM_nd (bX10_near_0 o (m1.i 0 (by decide)) (m1.r 10 33 (by decide)) (by decide) (by decide) gk_in0 (fun c => ?_) (fun c => ?_) (fun c => ?_))
  · rw [gk_0, q_isIn hn, ks_b0] at c
    dsimp only [o_near]
    rw [if_neg fun q => c ⟨_, q⟩]
    exact ⟨rfl, by rw [if_pos rfl]; exact h.z.th1, fun j hj => (mm_upF_n (by omega)).trans (mm_upF_n (by omega))⟩
  · rw [gk_0, q_isIn hn, ks_b0, Classical.not_not] at c
    obtain ⟨p, hp, rfl⟩ := c
    exact gk_in1 (by omega)
  · rw [gk_0, q_isIn hn, ks_b0, Classical.not_not] at c
    obtain ⟨p, hp, rfl⟩ := c
    dsimp only [o_near]
    rw [nI_clamp (by omega), if_pos ⟨hp, rfl⟩, gk_1 (by omega)]
    exact ⟨rfl, by rw [if_neg (by simp)]; exact h.z, fM_z⟩
def o_line : g_st → Int32 → Int32 → Option Int32
  | (n, T, _), x, y => if x = nI x.toNatClampNeg ∧ (y = 0 ∨ y = 1) then (match (gl n T)[x.toNatClampNeg]? with
    | some q => some (if y = 0 then nI q.1 else nI q.2)
    | none => none) else none
theorem ks_01 (y : Int32) : (y = 0 ∨ y = 1) ↔ (¬ y < 0 ∧ y ≤ 1) := by
  constructor
  · rintro (rfl | rfl) <;> decide
  · rintro ⟨h1, h2⟩
    obtain ⟨j, h3, rfl⟩ := nI_of2 (M := nI 1) (n := 1) (nI_toInt (by decide)) h1 h2
    have : j = 0 ∨ j = 1 := by omega
    rcases this with rfl | rfl
    · exact Or.inl rfl
    · exact Or.inr rfl
theorem ks_low2 : ∀ a, a < 14 → ∀ b, b < 14 → a < b → qJ6_bitCount_0f7a4 ((nI (2 ^ a ||| 2 ^ b) &&& -nI (2 ^ a ||| 2 ^ b)) - 1) = nI a ∧ qJ6_bitCount_0f7a4 (((nI (2 ^ a ||| 2 ^ b) &&& (nI (2 ^ a ||| 2 ^ b) - 1)) &&& -(nI (2 ^ a ||| 2 ^ b) &&& (nI (2 ^ a ||| 2 ^ b) - 1))) - 1) = nI b := by decide +kernel
theorem xC_line {M : mm_Mem} {σ : g_st} {x y : Int32} {sc : mm_SC} {z : Nat × Nat} (h : CS M σ) : mm_X mX9_line 3 sc z 0 [.ref 0, .int x, .int y, .null] [] M (xC M σ (o_line σ x y)) := by
  obtain ⟨n, T, L, K, t, f, fk⟩ := σ
  obtain ⟨⟨pf, sd, h1, h2⟩, h3, h4, -⟩ := id h
  have hn := h4.1
  have hl := gl_len (T := T) hn
  have no : o_line (n, T, L, K, t, f, fk) x y = none → xC M (n, T, L, K, t, f, fk) (o_line (n, T, L, K, t, f, fk) x y) mm_thrown M := fun e => ⟨by rw [e]; rfl, h, fun _ _ => rfl⟩
  refine bX9_line_0 h3.1 (h1.r 0 1 (by decide)) (mm_Call.of (s_endsOf (x := x) h3 h4) (by decide) ?_)
  rintro _ _ (⟨i, a, b, rfl, hq, rfl, rfl⟩ | ⟨hi, rfl, rfl⟩)
  · have bq := gl_at hq
    dsimp only at bq
    have li := (List.getElem?_eq_some_iff.mp hq).1
    have lt : 2 ^ a ||| 2 ^ b < 2 ^ n := ks_or_lt (ks_p2_lt (by omega)) (ks_p2_lt (by omega))
    have lt' := ks_p14 hn lt
    have nz : 2 ^ a ||| 2 ^ b ≠ 0 := by
      rw [ks_ne0]
      exact ⟨a, by rw [Nat.testBit_or, ks_p2, decide_eq_true rfl]; rfl⟩
    obtain ⟨l1, l2⟩ := ks_low2 a (by omega) b (by omega) bq.1
    have e : (y = 0 ∨ y = 1) → o_line (n, T, L, K, t, f, fk) (nI i) y = some (if y = 0 then nI a else nI b) := by
      intro hy
      dsimp only [o_line]
      rw [nI_clamp (by omega), if_pos ⟨rfl, hy⟩, hq]
    have e0 : ¬ (y = 0 ∨ y = 1) → o_line (n, T, L, K, t, f, fk) (nI i) y = none := by
      intro hy
      dsimp only [o_line]
      rw [if_neg fun q => hy q.2]
    refine bX9_line_8 (by decide) (fun c => ?_) (fun _ c => no (e0 fun q => ((ks_01 y).mp q).1 c)) (fun _ c c1 c2 => ?_) (fun _ c c1 c2 => ?_) (fun _ c c1 => no (e0 fun q => c1 ((ks_01 y).mp q).2))
    · rw [ks_eq0 (by omega)] at c
      exact absurd c nz
    · refine ⟨?_, h, fun _ _ => rfl⟩
      rw [e ((ks_01 y).mpr ⟨c, c1⟩), l2, if_neg c2]
      rfl
    · refine ⟨?_, h, fun _ _ => rfl⟩
      rw [e ((ks_01 y).mpr ⟨c, c1⟩), l1, if_pos c2]
      rfl
  · have e0 : o_line (n, T, L, K, t, f, fk) x y = none := by
      dsimp only [o_line]
      by_cases q : x = nI x.toNatClampNeg ∧ (y = 0 ∨ y = 1)
      · rw [if_pos q, List.getElem?_eq_none]
        rcases Nat.lt_or_ge x.toNatClampNeg (gl n T).length with w | w
        · exact absurd ⟨_, w, q.1⟩ hi
        · exact w
      · rw [if_neg q]
    exact bX9_line_8 (by decide) (fun _ => no e0) (fun c => absurd rfl c) (fun c => absurd rfl c) (fun c => absurd rfl c) (fun c => absurd rfl c)
theorem q_isInN {N : Nat} (hN : N < 2 ^ 30) (x : Int32) : qX10_isIn x 0 (nI N - 1) = ks_b (∃ p, p < N ∧ x = nI p) := by
  unfold qX10_isIn
  cases N with
  | zero =>
    rw [ks_bf (by rintro ⟨p, hp, -⟩; omega)]
    by_cases h : x < 0
    · rw [if_pos h]
    · rw [if_neg h, if_pos]
      rw [show nI 0 - 1 = (-1 : Int32) from by decide, Int32.lt_iff_toInt_lt]
      rw [Int32.lt_iff_toInt_lt] at h
      have e1 : (-1 : Int32).toInt = -1 := by decide
      have e2 : (0 : Int32).toInt = 0 := by decide
      omega
  | succ m =>
    rw [nI_pred]
    by_cases h : x < 0
    · rw [if_pos h, ks_bf]
      rintro ⟨p, hp, rfl⟩
      exact nI_pos (by omega) h
    · rw [if_neg h]
      by_cases h2 : nI m < x
      · rw [if_pos h2, ks_bf]
        rintro ⟨p, hp, rfl⟩
        rw [ks_ltI (by omega) (by omega)] at h2
        omega
      · obtain ⟨j, h3, h4⟩ := nI_of2 (M := nI m) (n := m) (nI_toInt (by omega)) h (Int32.not_lt.mp h2)
        rw [if_neg h2, ks_bt ⟨j, by omega, h4⟩]
theorem q_isIn1 (y : Int32) : qX10_isIn y 0 1 = ks_b (y = 0 ∨ y = 1) := by
  rw [q_isIn01]
  refine ks_bc ⟨?_, ?_⟩
  · rintro ⟨k, hk, rfl⟩
    have : k = 0 ∨ k = 1 := by omega
    rcases this with rfl | rfl
    · exact Or.inl rfl
    · exact Or.inr rfl
  · rintro (rfl | rfl)
    · exact ⟨0, by decide, rfl⟩
    · exact ⟨1, by decide, rfl⟩
theorem sM_line {M : mm_Mem} {σ : g_st} {x y : Int32} (h : MS M σ) : mm_S 3 mX10_line 0 0 [.ref 31, .int x, .int y] M (xM M σ (o_line σ x y)) := by
  obtain ⟨n, T, L, K, t, f, fk⟩ := σ
  obtain ⟨th, h⟩ := h
  obtain ⟨F, w, m1, m2⟩ := h.mo
  obtain ⟨o, hw⟩ := h.now
  have hn := hw.1
  have hl := gl_len (T := T) hn
  refine mm_S.of rfl rfl (Nat.le_of_ble_eq_true rfl) xM_nd (bX10_line_0 (m1.i 0 (by decide)) (m1.r 10 33 (by decide)) (mm_Call.of (s_laysLines' h.z) (by decide) ?_))
  rintro _ M1 ⟨rfl, k1, ⟨lf, lg, p1, p2, p3⟩, k2⟩
  have hM1 : fM M M1 := fun j hj => (k2 j (by omega) (by omega)).trans (mm_upF_n (by omega))
  obtain ⟨F1, w1, n1, n2⟩ := k1.mo
  have no : o_line (n, T, L, K, t, f, fk) x y = none → xM M (n, T, L, K, t, f, fk) (o_line (n, T, L, K, t, f, fk) x y) (some (.int 0)) (mm_upF M1 31 0 (.int 1)) := fun e => ⟨by rw [e]; rfl, by rw [e, if_pos rfl]; exact k1.th1, fun j hj => (mm_upF_n (by omega)).trans (hM1 j hj)⟩
  have pt : ¬ qX10_isIn x 0 (nI (gl n T).length - 1) = 0 → ∃ i, i < (gl n T).length ∧ x = nI i := by
    intro c
    rwa [q_isInN (by omega), ks_b0, Classical.not_not] at c
  refine bX10_line_15 p2 p1 (n1.i 0 (by decide)) (n1.r 36 52 (by decide)) (n1.r 35 51 (by decide)) (by decide) (fun c => no ?_) (fun c _ _ => ?_) (fun c c1 c2 => ?_) (fun c _ _ => ?_) (fun c c1 c2 => ?_) (fun c c1 => no ?_)
  · rw [q_isInN (by omega), ks_b0] at c
    dsimp only [o_line]
    by_cases q : x = nI x.toNatClampNeg ∧ (y = 0 ∨ y = 1)
    · rw [if_pos q, List.getElem?_eq_none]
      rcases Nat.lt_or_ge x.toNatClampNeg (gl n T).length with w | w
      · exact absurd ⟨_, w, q.1⟩ c
      · exact w
    · rw [if_neg q]
  · obtain ⟨i, hi, rfl⟩ := pt c
    exact vp_in_nI (by omega) (by decide)
  · obtain ⟨i, hi, rfl⟩ := pt c
    rw [q_isIn1, ks_b0, Classical.not_not] at c1
    obtain ⟨q, hq⟩ : ∃ q, (gl n T)[i]? = some q := ⟨_, List.getElem?_eq_getElem hi⟩
    have e : o_line (n, T, L, K, t, f, fk) (nI i) y = some (nI q.2) := by
      dsimp only [o_line]
      rw [nI_clamp (by omega), if_pos ⟨rfl, c1⟩, hq]
      dsimp only
      rw [if_neg c2]
    rw [nI_clamp (by omega), (p3 i q hq).2]
    exact ⟨by rw [e]; rfl, by rw [e, if_neg (by simp)]; exact k1, hM1⟩
  · obtain ⟨i, hi, rfl⟩ := pt c
    exact vp_in_nI (by omega) (by decide)
  · obtain ⟨i, hi, rfl⟩ := pt c
    rw [q_isIn1, ks_b0, Classical.not_not] at c1
    obtain ⟨q, hq⟩ : ∃ q, (gl n T)[i]? = some q := ⟨_, List.getElem?_eq_getElem hi⟩
    have e : o_line (n, T, L, K, t, f, fk) (nI i) y = some (nI q.1) := by
      dsimp only [o_line]
      rw [nI_clamp (by omega), if_pos ⟨rfl, c1⟩, hq]
      dsimp only
      rw [if_pos c2]
    rw [nI_clamp (by omega), (p3 i q hq).1]
    exact ⟨by rw [e]; rfl, by rw [e, if_neg (by simp)]; exact k1, hM1⟩
  · rw [q_isIn1, ks_b0] at c1
    dsimp only [o_line]
    rw [if_neg fun q => c1 q.2]
