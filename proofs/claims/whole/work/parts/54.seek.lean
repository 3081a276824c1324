/-! THE CLASS'S SEARCH for covers -/
def arr (M : mm_Mem) (a n : Nat) (O : Nat → Nat) : Prop := ∃ f, mm_at M a (mm_aI 14 f) ∧ ∀ p, p < n → f p = nI (O p)
def rwl (M : mm_Mem) (a : Nat) (R : List Nat) : Prop := ∃ f, mm_at M a (mm_aI 14 f) ∧ ∀ (k C : Nat), R[k]? = some C → f k = nI C
def cvq : List (Nat × Nat) := [(0, 12), (1, 13), (2, 14), (3, 15)]
def cvh (M : mm_Mem) (n sz fn : Int32) : Prop := (∀ q ∈ cvq, mm_fd M 11 2 q.1 (.ref q.2)) ∧ mm_fd M 11 2 4 (.int n) ∧ mm_fd M 11 2 5 (.int sz) ∧ mm_fd M 11 2 6 (.int fn)
def cvm (M : mm_Mem) (n : Nat) (O s : Nat → Nat) (R1 : List Nat) (F : Nat) (B : List Nat) : Prop := cvh M (nI n) (nI B.length) (nI F) ∧ arr M 12 n O ∧ arr M 13 n s ∧ rwl M 14 R1 ∧ rwl M 15 B
theorem arr.eq {M M' : mm_Mem} {a n : Nat} {O : Nat → Nat} (h : arr M a n O) (e : M' a = M a) : arr M' a n O := by
  obtain ⟨f, h1, h2⟩ := h
  exact ⟨f, h1.eq e, h2⟩
theorem rwl.eq {M M' : mm_Mem} {a : Nat} {R : List Nat} (h : rwl M a R) (e : M' a = M a) : rwl M' a R := by
  obtain ⟨f, h1, h2⟩ := h
  exact ⟨f, h1.eq e, h2⟩
theorem cvm.r {M : mm_Mem} {n : Nat} {O s : Nat → Nat} {R1 : List Nat} {F : Nat} {B : List Nat} (h : cvm M n O s R1 F B) (k a : Nat) (hk : (k, a) ∈ cvq) : mm_fd M 11 2 k (.ref a) := h.1.1 (k, a) hk
theorem s_eachTwo' {M : mm_Mem} {a n S : Nat} {O : Nat → Nat} (o : arr M a n O) (hn : n ≤ 14) (hS : S < 2 ^ n) : mm_S 1 mX9_eachTwo 0 0 [.ref a, .int (nI S)] M (mm_Eq (some (.int (ks_b (g_each O S)))) M) := by
  obtain ⟨f, o1, o2⟩ := o
  have e : f = gt_f (fun p => if p < n then O p else (f p).toBitVec.toNat) := by
    funext p
    show f p = nI (if p < n then O p else (f p).toBitVec.toNat)
    by_cases q : p < n
    · rw [if_pos q]
      exact o2 p q
    · rw [if_neg q]
      exact ks_of _
  have k := s_eachTwo (M := M) (a := a) (T := fun p => if p < n then O p else (f p).toBitVec.toNat) (by rw [← e]; exact o1) (ks_p14 hn hS)
  have e2 : g_each (fun p => if p < n then O p else (f p).toBitVec.toNat) S ↔ g_each O S := by
    unfold g_each
    constructor
    · intro h p hp hb
      have := h p hp hb
      dsimp only at this
      rwa [if_pos (ks_bit_lt hS hb)] at this
    · intro h p hp hb
      dsimp only
      rw [if_pos (ks_bit_lt hS hb)]
      exact h p hp hb
  rwa [ks_bc e2] at k
theorem s_firstOpen {M : mm_Mem} {n : Nat} {O s : Nat → Nat} {R1 : List Nat} {F : Nat} {B : List Nat} (h : cvm M n O s R1 F B) (hw : gw n O) : mm_S 1 mX2_firstOpen 0 0 [.ref 11] M (fun r M' => M' = M ∧ ((r = some (.int (-1)) ∧ ∀ p, O p = 0) ∨ ∃ a, a < n ∧ r = some (.int (nI a)) ∧ O a ≠ 0 ∧ ∀ i, i < a → O i = 0)) := by
  have hn := hw.1
  obtain ⟨f, o1, o2⟩ := h.2.1
  have nd : ∀ (r : Option Value) (M' : mm_Mem), (M' = M ∧ ((r = some (.int (-1)) ∧ ∀ p, O p = 0) ∨ ∃ a, a < n ∧ r = some (.int (nI a)) ∧ O a ≠ 0 ∧ ∀ i, i < a → O i = 0)) → ∀ x, r ≠ some (.double x) := by
    rintro r M' ⟨-, ⟨h, -⟩ | ⟨a, -, h, -⟩⟩ x e <;> (rw [h] at e; cases e)
  refine mm_S.of rfl rfl (Nat.le_of_ble_eq_true rfl) nd (bX2_firstOpen_0 ?_)
  rw [show (0 : Int32) = nI 0 from rfl]
  refine srch (s := 0) (n := n) (G := fun p => mm_X mX2_firstOpen 1 none (0, 0) 2 [.ref 11, .int (nI p)] [] M _) (P := fun p => O p ≠ 0) (Nat.zero_le n) ?_
  intro p _ hp hI ih
  have hz : ∀ i, i < p → O i = 0 := fun i hi => Classical.byContradiction fun q => hI i (Nat.zero_le _) hi q
  refine bX2_firstOpen_2 o1 h.1.2.1 (h.r 0 12 (by decide)) (by decide) (fun c => ?_) (fun c c1 => ?_) (fun c c1 => ?_)
  · rw [ks_le (by omega) (by omega)] at c
    refine ⟨rfl, Or.inl ⟨rfl, fun i => ?_⟩⟩
    rcases Nat.lt_or_ge i p with q | q
    · exact hz i q
    · exact hw.2.2.1 i (by omega)
  · rw [ks_le (by omega) (by omega)] at c
    have := gw_ok hw p
    rw [ks_at (by decide) (by omega), o2 p (by omega), ks_eq0 (by omega)] at c1
    rw [nI_1]
    exact ih (by omega) fun q => q c1
  · rw [ks_le (by omega) (by omega)] at c
    have := gw_ok hw p
    rw [ks_at (by decide) (by omega), o2 p (by omega), ks_eq0 (by omega)] at c1
    exact ⟨rfl, Or.inr ⟨p, by omega, rfl, c1, hz⟩⟩
theorem s_fitsC {M : mm_Mem} {n C : Nat} {O s : Nat → Nat} {R1 : List Nat} {F : Nat} {B : List Nat} (h : cvm M n O s R1 F B) (hw : gw n O) (hs : ∀ p, s p ≤ 2) (hC : C < 2 ^ n) : mm_S 2 mX2_fits 0 0 [.ref 11, .int (nI C)] M (mm_Eq (some (.int (ks_b (fit O s C)))) M) := by
  have hn := hw.1
  have hC' := ks_p14 hn hC
  have oA := h.2.1
  obtain ⟨f, o1, o2⟩ := id oA
  obtain ⟨g, p1, p2⟩ := h.2.2.1
  refine mm_S.of rfl rfl (Nat.le_of_ble_eq_true rfl) mm_ndi (bX2_fits_0 ?_)
  rw [show (0 : Int32) = nI 0 from rfl]
  refine srch (s := 0) (n := n) (G := fun p => mm_X mX2_fits 2 none (0, 0) 2 [.ref 11, .int (nI C), .int (nI p), .null] [] M (mm_Eq (some (.int (ks_b (fit O s C)))) M)) (P := fun p => ¬ (C.testBit p = true → fitp O s C p)) (Nat.zero_le n) ?_
  intro p _ hp hI ih
  have lt : ¬ nI n ≤ nI p → p < n := fun c => by rw [ks_le (by omega) (by omega)] at c; omega
  have no : C.testBit p = true → ¬ fitp O s C p → ks_b (fit O s C) = 0 := fun h1 h2 => ks_bf fun q => h2 (q p h1)
  have hOp := gw_ok hw p
  have hsp := hs p
  have at1 : p < n → qX9_at (nI p) 14 g = nI (s p) := fun q => by rw [ks_at (by decide) (by omega), p2 p q]
  have at2 : p < n → qX9_at (nI p) 14 f = nI (O p) := fun q => by rw [ks_at (by decide) (by omega), o2 p q]
  have l1 : ks_nd C (O p) < 2 ^ 31 := Nat.lt_of_le_of_lt (ks_nd_le _ _) (by omega)
  have l2 : ks_nd (O p) C < 2 ^ n := Nat.lt_of_le_of_lt (ks_nd_le _ _) (hw.2.1 p)
  have l2' := ks_p14 hn l2
  have lp : p < n → 2 ^ p < 2 ^ 31 := fun q => Nat.pow_lt_pow_right (by decide) (by omega)
  refine bX2_fits_2 p1 o1 h.1.2.1 (h.r 1 13 (by decide)) (h.r 0 12 (by decide)) (by decide) (fun c => ⟨?_, rfl⟩) (fun c c1 c2 => ⟨?_, rfl⟩) (fun c c1 c2 c3 c4 => ?_) (fun c c1 c2 c3 c4 c5 => ⟨?_, rfl⟩) (fun c c1 c2 c3 c4 c5 => ?_) (fun c c1 c2 c3 => ⟨?_, rfl⟩) (fun c c1 => ?_)
  · rw [ks_le (by omega) (by omega)] at c
    rw [ks_bt]
    exact fun p' hp' => Classical.byContradiction fun u => hI p' (Nat.zero_le _) (by have := ks_bit_lt hC hp'; omega) fun v => u (v hp')
  · have l := lt c
    rw [ks_has (by omega) (by omega), ks_b0, Classical.not_not] at c1
    rw [at1 l, show (1 : Int32) = nI 1 from rfl, ks_ltI (by omega) (by omega)] at c2
    rw [no c1 fun q => by have := q.1; omega]
  · have l := lt c
    rw [ks_has (by omega) (by omega), ks_b0, Classical.not_not] at c1
    rw [at1 l, show (1 : Int32) = nI 1 from rfl, ks_ltI (by omega) (by omega)] at c2
    rw [at2 l, ks_andn, ks_shl1 _ (by omega), ks_eqI l1 (lp l)] at c3
    rw [at2 l, ks_andn, ks_eq0 (by omega)] at c4
    rw [nI_1]
    exact ih l fun q => q fun _ => ⟨by omega, c3, Or.inl c4⟩
  · have l := lt c
    rw [ks_has (by omega) (by omega), ks_b0, Classical.not_not] at c1
    rw [at2 l, ks_andn, ks_eq0 (by omega)] at c4
    rw [at1 l, show (1 : Int32) = nI 1 from rfl, ks_eqI (by omega) (by omega)] at c5
    rw [no c1 fun q => by
      rcases q.2.2 with w | w
      · exact c4 w
      · exact w.1 c5]
  · have l := lt c
    rw [ks_has (by omega) (by omega), ks_b0, Classical.not_not] at c1
    rw [at1 l, show (1 : Int32) = nI 1 from rfl, ks_ltI (by omega) (by omega)] at c2
    rw [at2 l, ks_andn, ks_shl1 _ (by omega), ks_eqI l1 (lp l)] at c3
    rw [at2 l, ks_andn, ks_eq0 (by omega)] at c4
    rw [at1 l, show (1 : Int32) = nI 1 from rfl, ks_eqI (by omega) (by omega)] at c5
    rw [at2 l, ks_andn]
    refine mm_Call.eq (s_eachTwo' oA hn l2) (by decide) (bX2_fits_90 (fun c6 => ?_) (fun c6 => ⟨?_, rfl⟩))
    · rw [ks_b0, Classical.not_not] at c6
      rw [nI_1]
      exact ih l fun q => q fun _ => ⟨by omega, c3, Or.inr ⟨c5, c6⟩⟩
    · rw [ks_b0] at c6
      rw [no c1 fun q => by
        rcases q.2.2 with w | w
        · exact c4 w
        · exact c6 w.2]
  · have l := lt c
    rw [ks_has (by omega) (by omega), ks_b0, Classical.not_not] at c1
    rw [at2 l, ks_andn, ks_shl1 _ (by omega), ks_eqI l1 (lp l)] at c3
    rw [no c1 fun q => c3 q.2.1]
  · have l := lt c
    rw [ks_has (by omega) (by omega), ks_b0] at c1
    rw [nI_1]
    exact ih l fun q => q fun u => absurd u c1
theorem s_seat {M : mm_Mem} {n C : Nat} {O s O' s' : Nat → Nat} {by' : Int32} {R1 : List Nat} {F : Nat} {B : List Nat} (h : cvm M n O s R1 F B) (hn : n ≤ 14) (hC : C < 2 ^ n) (h1 : ∀ p, p < n → C.testBit p = true → nI (s p) + by' = nI (s' p) ∧ (O p ^^^ C) ^^^ 2 ^ p = O' p) (h2 : ∀ p, p < n → ¬ C.testBit p = true → s p = s' p ∧ O p = O' p) : mm_S 1 mX2_seat 0 0 [.ref 11, .int (nI C), .int by'] M (fun r M' => r = none ∧ cvm M' n O' s' R1 F B ∧ ∀ j, j ≠ 12 → j ≠ 13 → M' j = M j) := by
  have hC' := ks_p14 hn hC
  obtain ⟨hq, ⟨f, o1, o2⟩, ⟨g, p1, p2⟩, k1, k2⟩ := id h
  refine mm_S.of rfl rfl (Nat.le_of_ble_eq_true rfl) (fun r M' h x e => by rw [h.1] at e; cases e) (bX2_seat_0 ?_)
  rw [show (0 : Int32) = nI 0 from rfl]
  refine fld (s := 0) (n := n) (G := fun p (q : mm_Mem) => mm_X mX2_seat 1 none (0, 0) 2 [.ref 11, .int (nI C), .int by', .int (nI p)] [] q _) (v0 := M) (I := fun p q => (∃ f g, mm_at q 12 (mm_aI 14 f) ∧ mm_at q 13 (mm_aI 14 g) ∧ (∀ i, i < n → f i = nI (if i < p then O' i else O i)) ∧ ∀ i, i < n → g i = nI (if i < p then s' i else s i)) ∧ ∀ j, j ≠ 12 → j ≠ 13 → q j = M j) (Nat.zero_le n) ⟨⟨f, g, o1, p1, fun i hi => by rw [if_neg (Nat.not_lt_zero i)]; exact o2 i hi, fun i hi => by rw [if_neg (Nat.not_lt_zero i)]; exact p2 i hi⟩, fun _ _ _ => rfl⟩ ?_
  rintro p M1 _ hp ⟨⟨f1, g1, q1, q2, q3, q4⟩, e1⟩ ih
  have e11 := e1 11 (by decide) (by decide)
  refine bX2_seat_2 q2 q1 (h.1.2.1.eq e11) ((h.r 1 13 (by decide)).eq e11) ((h.r 0 12 (by decide)).eq e11) (by decide) (by decide) (by decide) (fun c => ?_) (fun c c1 => ?_) (fun c c1 => ?_)
  · rw [ks_le (by omega) (by omega)] at c
    refine ⟨rfl, ⟨⟨fun q hq' => (hq.1 q hq').eq e11, hq.2.1.eq e11, hq.2.2.1.eq e11, hq.2.2.2.eq e11⟩, ⟨f1, q1, fun i hi => ?_⟩, ⟨g1, q2, fun i hi => ?_⟩, k1.eq (e1 14 (by decide) (by decide)), k2.eq (e1 15 (by decide) (by decide))⟩, e1⟩
    · have := q3 i hi
      rwa [if_pos (by omega)] at this
    · have := q4 i hi
      rwa [if_pos (by omega)] at this
  · rw [ks_le (by omega) (by omega)] at c
    rw [ks_has (by omega) (by omega), ks_b0] at c1
    rw [nI_1]
    obtain ⟨w1, w2⟩ := h2 p (by omega) c1
    refine ih M1 (by omega) ⟨⟨f1, g1, q1, q2, fun i hi => ?_, fun i hi => ?_⟩, e1⟩
    · rw [q3 i hi]
      by_cases u : i = p
      · subst u
        rw [if_neg (by omega), if_pos (by omega), w2]
      · by_cases v : i < p
        · rw [if_pos v, if_pos (by omega)]
        · rw [if_neg v, if_neg (by omega)]
    · rw [q4 i hi]
      by_cases u : i = p
      · subst u
        rw [if_neg (by omega), if_pos (by omega), w1]
      · by_cases v : i < p
        · rw [if_pos v, if_pos (by omega)]
        · rw [if_neg v, if_neg (by omega)]
  · rw [ks_le (by omega) (by omega)] at c
    rw [ks_has (by omega) (by omega), ks_b0, Classical.not_not] at c1
    obtain ⟨w1, w2⟩ := h1 p (by omega) c1
    have a1 := q3 p (by omega)
    have a2 := q4 p (by omega)
    rw [if_neg (by omega)] at a1 a2
    rw [ks_at (by decide) (by omega), ks_at (by decide) (by omega), a1, a2, w1, nx_xor, ks_shl1 _ (by omega), nx_xor, w2, ks_put (by decide) (by omega), ks_put (by decide) (by omega), nI_1]
    refine ih _ (by omega) ⟨⟨_, _, mm_at.s q1.1, (mm_at.s q2.1).n (by decide), fun i hi => ?_, fun i hi => ?_⟩, fun j h1 h2 => ((mm_up_n h1).trans (mm_up_n h2)).trans (e1 j h1 h2)⟩
    · by_cases u : i = p
      · subst u
        rw [pk_us, if_pos (by omega)]
      · rw [pk_un u, q3 i hi]
        by_cases v : i < p
        · rw [if_pos v, if_pos (by omega)]
        · rw [if_neg v, if_neg (by omega)]
    · by_cases u : i = p
      · subst u
        rw [pk_us, if_pos (by omega)]
      · rw [pk_un u, q4 i hi]
        by_cases v : i < p
        · rw [if_pos v, if_pos (by omega)]
        · rw [if_neg v, if_neg (by omega)]
theorem stp_xor {n p C : Nat} {O s : Nat → Nat} (hw : gw n O) (h : stp O s C) (hp : C.testBit p = true) : (O p ^^^ C) ^^^ 2 ^ p = kO O C p ∧ (kO O C p ^^^ C) ^^^ 2 ^ p = O p := by
  have e : (O p ^^^ C) ^^^ 2 ^ p = kO O C p := by
    refine ks_ext fun i => ?_
    rw [Nat.testBit_xor, Nat.testBit_xor, ks_p2, Bool.eq_iff_iff, kO_bit hw]
    by_cases u : p = i
    · subst u
      rw [hw.2.2.2.2, hp]
      simp
    · rw [decide_eq_false u]
      cases v : C.testBit i with
      | false => simp
      | true =>
        rw [h.2.1 p i hp v u, hp]
        simp
  refine ⟨e, ?_⟩
  rw [← e]
  refine ks_ext fun i => ?_
  rw [Nat.testBit_xor, Nat.testBit_xor, Nat.testBit_xor, Nat.testBit_xor]
  cases (O p).testBit i <;> cases C.testBit i <;> cases (2 ^ p).testBit i <;> rfl
def bst (F : Nat) (R1 B : List Nat) (Ls : List (List Nat)) : List Nat := if F = 0 then (match Ls with
  | [] => B
  | R :: _ => R1 ++ R) else B
theorem bst_nil {F : Nat} {R1 B : List Nat} : bst F R1 B [] = B := by unfold bst; split <;> rfl
theorem bst_app {F : Nat} {R1 B : List Nat} {L1 L2 : List (List Nat)} : bst (min 999 (F + L1.length)) R1 (bst F R1 B L1) L2 = bst F R1 B (L1 ++ L2) := by
  cases L1 with
  | nil =>
    rw [bst_nil, List.nil_append, List.length_nil, Nat.add_zero]
    unfold bst
    by_cases e : F = 0
    · subst e
      rfl
    · rw [if_neg e, if_neg (by omega)]
  | cons R L =>
    have : ¬ min 999 (F + (R :: L).length) = 0 := by
      rw [List.length_cons]
      omega
    show (if min 999 (F + (R :: L).length) = 0 then _ else _) = _
    rw [if_neg this]
    unfold bst
    rfl
theorem bst_map {F C : Nat} {R1 B : List Nat} {L : List (List Nat)} : bst F (R1 ++ [C]) B L = bst F R1 B (L.map fun R => C :: R) := by
  unfold bst
  cases L with
  | nil => rfl
  | cons R L =>
    show (if F = 0 then (R1 ++ [C]) ++ R else B) = (if F = 0 then R1 ++ (C :: R) else B)
    rw [List.append_assoc]
    rfl
theorem min_add {F a b : Nat} : min 999 (min 999 (F + a) + b) = min 999 (F + (a + b)) := by omega
