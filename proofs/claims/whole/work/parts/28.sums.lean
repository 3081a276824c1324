/-! SUMS, and how many points a set has -/
def gs (f : Nat → Nat) : Nat → Nat
  | 0 => 0
  | n + 1 => gs f n + f n
theorem gs_le {f : Nat → Nat} {c : Nat} : ∀ {n : Nat}, (∀ i, i < n → f i ≤ c) → gs f n ≤ c * n
  | 0, _ => Nat.zero_le _
  | n + 1, h => by
    have h1 := gs_le (n := n) (fun i hi => h i (by omega))
    have h2 := h n (by omega)
    show gs f n + f n ≤ c * (n + 1)
    rw [Nat.mul_succ]
    omega
theorem gs_eq {f g : Nat → Nat} : ∀ {n : Nat}, (∀ i, i < n → f i = g i) → gs f n = gs g n
  | 0, _ => rfl
  | n + 1, h => by
    show gs f n + f n = gs g n + g n
    rw [gs_eq (n := n) (fun i hi => h i (by omega)), h n (by omega)]
theorem gs_z {f : Nat → Nat} : ∀ {n : Nat}, (∀ i, i < n → f i = 0) → gs f n = 0
  | 0, _ => rfl
  | n + 1, h => by
    show gs f n + f n = 0
    rw [gs_z (n := n) (fun i hi => h i (by omega)), h n (by omega)]
theorem gs_ext {f : Nat → Nat} {m n : Nat} (h : m ≤ n) (hz : ∀ i, m ≤ i → i < n → f i = 0) : gs f n = gs f m := by
  induction n with
  | zero =>
    obtain rfl : m = 0 := by omega
    rfl
  | succ n ih =>
    rcases Nat.lt_or_ge n m with q | q
    · obtain rfl : m = n + 1 := by omega
      rfl
    · show gs f n + f n = gs f m
      rw [ih q (fun i h1 h2 => hz i h1 (by omega)), hz n q (by omega), Nat.add_zero]
noncomputable def g1 (P : Prop) : Nat := @ite _ P (Classical.propDecidable P) 1 0
theorem g1_t {P : Prop} (h : P) : g1 P = 1 := by unfold g1; rw [if_pos h]
theorem g1_f {P : Prop} (h : ¬ P) : g1 P = 0 := by unfold g1; rw [if_neg h]
theorem g1_c {P Q : Prop} (h : P ↔ Q) : g1 P = g1 Q := by rw [propext h]
theorem g1_le (P : Prop) : g1 P ≤ 1 := by
  by_cases h : P
  · rw [g1_t h]; exact Nat.le_refl 1
  · rw [g1_f h]; exact Nat.zero_le 1
theorem ks_cntP (p : Nat → Bool) : ∀ n, (List.range n).countP p = gs (fun i => g1 (p i = true)) n
  | 0 => rfl
  | n + 1 => by
    rw [List.range_succ, List.countP_append, ks_cntP p n, List.countP_singleton]
    show _ = gs _ n + g1 (p n = true)
    cases h : p n with
    | true => rw [if_pos rfl, g1_t rfl]
    | false => rw [if_neg (by decide), g1_f (by decide)]
theorem ks_popn {S n : Nat} (hn : n ≤ 14) (h : S < 2 ^ n) : ks_pop S = gs (fun i => g1 (S.testBit i = true)) n := by
  unfold ks_pop
  rw [ks_cntP]
  refine gs_ext hn (fun i h1 _ => g1_f ?_)
  rw [Nat.testBit_lt_two_pow (Nat.lt_of_lt_of_le h (Nat.pow_le_pow_right (by decide) h1))]
  decide
/-- the most of a row -/
def gmx (f : Nat → Nat) : Nat → Nat
  | 0 => 0
  | n + 1 => if gmx f n < f n then f n else gmx f n
theorem gmx_le {f : Nat → Nat} {c : Nat} : ∀ {n : Nat}, (∀ i, i < n → f i ≤ c) → gmx f n ≤ c
  | 0, _ => Nat.zero_le _
  | n + 1, h => by
    show (if gmx f n < f n then f n else gmx f n) ≤ c
    split
    · exact h n (by omega)
    · exact gmx_le (n := n) (fun i hi => h i (by omega))
theorem ks_shr1 {a : Nat} (h : a < 2 ^ 31) : mm_shr (nI a) 1 = nI (a / 2) := by
  rw [show (1 : Int32) = nI 1 from rfl, ks_shrN h 1 (by decide), Nat.shiftRight_eq_div_pow]
theorem ks_div2 {a : Nat} (h : a < 2 ^ 31) : nI a / 2 = nI (a / 2) := pk_div (d := 2) h (by decide) (by decide)
/-! how many lines, and the most of a point -/
def g_lines (n : Nat) (T : Nat → Nat) : Nat := gs (fun p => ks_pop (T p)) n / 2
theorem gs_lines {n : Nat} {T : Nat → Nat} : gs (fun p => ks_pop (T p)) n ≤ 14 * n := gs_le fun i _ => ks_pop_le (T i)
theorem s_lines {M : mm_Mem} {k n : Nat} {T : Nat → Nat} (o : na M k n T) (hw : gw n T) : mm_S 1 mX3_lines 0 0 [.ref k] M (mm_Eq (some (.int (nI (g_lines n T)))) M) := by
  have hn := hw.1
  refine mm_S.of rfl rfl (Nat.le_of_ble_eq_true rfl) mm_ndi (bX3_lines_0 ?_)
  refine fld (s := 0) (G := fun j v => mm_X mX3_lines 1 none (0, 0) 4 [.ref k, .int (nI v), .int (nI j)] [] M (mm_Eq (some (.int (nI (g_lines n T)))) M)) (I := fun j v => v = gs (fun p => ks_pop (T p)) j) (Nat.zero_le n) rfl ?_
  intro j v _ hj hI ih
  subst hI
  have hb := gs_lines (n := j) (T := T)
  have hT := gw_ok hw j
  refine bX3_lines_4 o.1 o.2 (by decide) (fun c => ⟨?_, rfl⟩) (fun c => ?_)
  · simp (disch := omega) only [ks_le, ks_ltI, ks_eqI, ks_eq0, ks_le14, ks_has, ks_mhas, ks_at, ks_b0, gk_0, gk_1, ks_andn, nx_and, nx_or, nx_xor, ks_shl1, ks_shl2, Classical.not_not, nI_1] at c
    obtain rfl : j = n := by omega
    rw [ks_shr1 (by omega)]
    rfl
  · simp (disch := omega) only [ks_le, ks_ltI, ks_eqI, ks_eq0, ks_le14, ks_has, ks_mhas, ks_at, ks_b0, gk_0, gk_1, ks_andn, nx_and, nx_or, nx_xor, ks_shl1, ks_shl2, Classical.not_not, nI_1] at c
    rw [ks_at (by decide) (by omega), ks_cnt hT, nI_add, nI_1]
    exact ih _ (by omega) rfl
theorem s_lineMany {M : mm_Mem} {a n : Nat} {T : Nat → Nat} (o : ra M a n T) (hw : gw n T) : mm_S 1 mX10_lineMany 0 0 [.ref a] M (mm_Eq (some (.int (nI (g_lines n T)))) M) := by
  have hn := hw.1
  refine mm_S.of rfl rfl (Nat.le_of_ble_eq_true rfl) mm_ndi (bX10_lineMany_0 ?_)
  refine fld (s := 0) (G := fun j v => mm_X mX10_lineMany 1 none (0, 0) 4 [.ref a, .int (nI v), .int (nI j)] [] M (mm_Eq (some (.int (nI (g_lines n T)))) M)) (I := fun j v => v = gs (fun p => ks_pop (T p)) j) (Nat.zero_le n) rfl ?_
  intro j v _ hj hI ih
  subst hI
  have hb := gs_lines (n := j) (T := T)
  have hT := gw_ok hw j
  refine bX10_lineMany_4 o gk_in0 (fun c => ⟨?_, rfl⟩) (fun c => gk_inc hn hj c) (fun c => ?_)
  · rw [gk_0, ks_le (by omega) (by omega)] at c
    obtain rfl : j = n := by omega
    rw [ks_div2 (by omega)]
    rfl
  · rw [gk_0, ks_le (by omega) (by omega)] at c
    rw [gk_1 (by omega)]
    refine mm_Call.eq (s_bits hT) (by decide) (bX10_lineMany_20 ?_)
    rw [nI_add, nI_1]
    exact ih _ (by omega) rfl
theorem s_mostLines {M : mm_Mem} {k n : Nat} {T : Nat → Nat} (o : na M k n T) (hw : gw n T) : mm_S 1 mX3_mostLines 0 0 [.ref k] M (mm_Eq (some (.int (nI (gmx (fun p => ks_pop (T p)) n)))) M) := by
  have hn := hw.1
  refine mm_S.of rfl rfl (Nat.le_of_ble_eq_true rfl) mm_ndi (bX3_mostLines_0 ?_)
  refine fld (s := 0) (G := fun j v => mm_X mX3_mostLines 1 none (0, 0) 4 [.ref k, .int (nI v), .int (nI j)] [] M (mm_Eq (some (.int (nI (gmx (fun p => ks_pop (T p)) n)))) M)) (I := fun j v => v = gmx (fun p => ks_pop (T p)) j) (Nat.zero_le n) rfl ?_
  intro j v _ hj hI ih
  have hb : v ≤ 14 := by rw [hI]; exact gmx_le fun i _ => ks_pop_le (T i)
  have hp := ks_pop_le (T j)
  have hT := gw_ok hw j
  refine bX3_mostLines_4 o.1 o.2 (by decide) (fun c => ⟨?_, rfl⟩) (fun c => ?_)
  · simp (disch := omega) only [ks_le, ks_ltI, ks_eqI, ks_eq0, ks_le14, ks_has, ks_mhas, ks_at, ks_b0, gk_0, gk_1, ks_andn, nx_and, nx_or, nx_xor, ks_shl1, ks_shl2, Classical.not_not, nI_1] at c
    obtain rfl : j = n := by omega
    rw [hI]
  · simp (disch := omega) only [ks_le, ks_ltI, ks_eqI, ks_eq0, ks_le14, ks_has, ks_mhas, ks_at, ks_b0, gk_0, gk_1, ks_andn, nx_and, nx_or, nx_xor, ks_shl1, ks_shl2, Classical.not_not, nI_1] at c
    rw [ks_at (by decide) (by omega), ks_cnt hT, nI_1]
    have e : (if nI v < nI (ks_pop (T j)) then nI (ks_pop (T j)) else nI v) = nI (if v < ks_pop (T j) then ks_pop (T j) else v) := by
      by_cases q : v < ks_pop (T j)
      · rw [if_pos ((ks_ltI (by omega) (by omega)).mpr q), if_pos q]
      · rw [if_neg (fun h => q ((ks_ltI (by omega) (by omega)).mp h)), if_neg q]
    rw [e]
    exact ih _ (by omega) (by rw [hI]; rfl)
theorem s_mostLinesM {M : mm_Mem} {F : Nat → Int32} {w : Int64} {n : Nat} {T : Nat → Nat} (h : mo M F w) (o : ra M 33 n T) (hw : gw n T) : mm_S 1 mX10_mostLines 0 0 [.ref 31] M (mm_Eq (some (.int (nI (gmx (fun p => ks_pop (T p)) n)))) M) := by
  have hn := hw.1
  have f10 := h.r 10 33 (by decide)
  refine mm_S.of rfl rfl (Nat.le_of_ble_eq_true rfl) mm_ndi (bX10_mostLines_0 ?_)
  refine fld (s := 0) (G := fun j v => mm_X mX10_mostLines 1 none (0, 0) 4 [.ref 31, .int (nI v), .int (nI j)] [] M (mm_Eq (some (.int (nI (gmx (fun p => ks_pop (T p)) n)))) M)) (I := fun j v => v = gmx (fun p => ks_pop (T p)) j) (Nat.zero_le n) rfl ?_
  intro j v _ hj hI ih
  have hb : v ≤ 14 := by rw [hI]; exact gmx_le fun i _ => ks_pop_le (T i)
  have hp := ks_pop_le (T j)
  have hT := gw_ok hw j
  refine bX10_mostLines_4 o f10 gk_in0 (fun c => ⟨?_, rfl⟩) (fun c => gk_inc hn hj c) (fun c => ?_)
  · rw [gk_0, ks_le (by omega) (by omega)] at c
    obtain rfl : j = n := by omega
    rw [hI]
  · have c9 := c
    rw [gk_0, ks_le (by omega) (by omega)] at c
    rw [gk_1 (by omega)]
    refine mm_Call.eq (s_bits hT) (by decide) (bX10_mostLines_25 o f10 (fun c1 => ?_) (fun _ => gk_inc hn hj c9) (fun c1 => ?_))
    · rw [ks_le (by omega) (by omega)] at c1
      rw [nI_1]
      refine ih _ (by omega) ?_
      show v = if gmx (fun p => ks_pop (T p)) j < ks_pop (T j) then ks_pop (T j) else gmx (fun p => ks_pop (T p)) j
      rw [← hI, if_neg (by omega)]
    · rw [ks_le (by omega) (by omega)] at c1
      rw [gk_1 (by omega)]
      refine mm_Call.eq (s_bits hT) (by decide) (bX10_mostLines_40 ?_)
      rw [nI_1]
      refine ih _ (by omega) ?_
      show ks_pop (T j) = if gmx (fun p => ks_pop (T p)) j < ks_pop (T j) then ks_pop (T j) else gmx (fun p => ks_pop (T p)) j
      rw [← hI, if_pos (by omega)]
