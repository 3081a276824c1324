/-! LISTS OF ROWS, in the order of the first number that differs -/
theorem ll_len {α : Type} : ∀ (L1 L2 : List α), L1.Nodup → (∀ x, x ∈ L1 → x ∈ L2) → L1.length ≤ L2.length
  | [], _, _, _ => Nat.zero_le _
  | x :: L1, L2, h, hs => by
    obtain ⟨s, t, rfl⟩ := List.append_of_mem (hs x List.mem_cons_self)
    obtain ⟨h1, h2⟩ := List.nodup_cons.mp h
    have key : ∀ y, y ∈ L1 → y ∈ s ++ t := fun y hy => by
      have := hs y (List.mem_cons_of_mem _ hy)
      rw [List.mem_append, List.mem_cons] at this
      rw [List.mem_append]
      rcases this with q | q | q
      · exact Or.inl q
      · subst q
        exact absurd hy h1
      · exact Or.inr q
    have := ll_len L1 (s ++ t) h2 key
    rw [List.length_append] at this
    rw [List.length_append, List.length_cons, List.length_cons]
    omega
def lsl (R B : List Nat) : Prop := ∃ k c d : Nat, R[k]? = some c ∧ B[k]? = some d ∧ c < d ∧ ∀ j : Nat, j < k → R[j]? = B[j]?
theorem lsl_hd {c d : Nat} {x y : List Nat} (h : c < d) : lsl (c :: x) (d :: y) := ⟨0, c, d, rfl, rfl, h, fun j hj => absurd hj (Nat.not_lt_zero j)⟩
theorem lsl_tl {c : Nat} {x y : List Nat} (h : lsl x y) : lsl (c :: x) (c :: y) := by
  obtain ⟨k, u, v, h1, h2, h3, h4⟩ := h
  refine ⟨k + 1, u, v, h1, h2, h3, fun j hj => ?_⟩
  cases j with
  | zero => rfl
  | succ j => exact h4 j (by omega)
theorem lsl_ir {x : List Nat} : ¬ lsl x x := by
  rintro ⟨k, u, v, h1, h2, h3, -⟩
  rw [h1] at h2
  have := Option.some.inj h2
  omega
theorem lsl_tr {x y z : List Nat} (h : lsl x y) (h' : lsl y z) : lsl x z := by
  obtain ⟨k, u, v, h1, h2, h3, h4⟩ := h
  obtain ⟨k', u', v', h1', h2', h3', h4'⟩ := h'
  rcases Nat.lt_trichotomy k k' with q | q | q
  · exact ⟨k, u, v, h1, (h4' k q).symm.trans h2, h3, fun j hj => (h4 j hj).trans (h4' j (by omega))⟩
  · subst q
    rw [h2] at h1'
    have := Option.some.inj h1'
    exact ⟨k, u, v', h1, h2', by omega, fun j hj => (h4 j hj).trans (h4' j hj)⟩
  · exact ⟨k', u', v', (h4 k' q).trans h1', h2', h3', fun j hj => (h4 j (by omega)).trans (h4' j hj)⟩
theorem cv_tot : ∀ (R : List Nat) (O s : Nat → Nat) (B : List Nat), cvr O s R → cvr O s B → R = B ∨ lsl R B ∨ lsl B R
  | [], _, _, [], _, _ => Or.inl rfl
  | [], O, s, D :: B, h, h' => by
    obtain ⟨⟨a, b, f, -⟩, -⟩ := h'.1
    exact absurd (h a) (fo_ne f)
  | C :: R, O, s, [], h, h' => by
    obtain ⟨⟨a, b, f, -⟩, -⟩ := h.1
    exact absurd (h' a) (fo_ne f)
  | C :: R, O, s, D :: B, h, h' => by
    rcases Nat.lt_trichotomy C D with q | q | q
    · exact Or.inr (Or.inl (lsl_hd q))
    · subst q
      rcases cv_tot R _ _ B h.2 h'.2 with e | e | e
      · exact Or.inl (by rw [e])
      · exact Or.inr (Or.inl (lsl_tl e))
      · exact Or.inr (Or.inr (lsl_tl e))
    · exact Or.inr (Or.inr (lsl_hd q))
def mnl (P : List Nat → Prop) (B : List Nat) : Prop := P B ∧ ∀ R, P R → R = B ∨ lsl B R
theorem mnl_u {P : List Nat → Prop} {A B : List Nat} (h : mnl P A) (h' : mnl P B) : A = B := by
  rcases h.2 B h'.1 with q | q
  · exact q.symm
  · rcases h'.2 A h.1 with w | w
    · exact w
    · exact absurd (lsl_tr q w) lsl_ir
theorem pw_nd {Ls : List (List Nat)} (h : Ls.Pairwise lsl) : Ls.Nodup := List.Pairwise.imp (fun {a b} (q : lsl a b) (e : a = b) => lsl_ir (by rw [e] at q; exact q)) h
/-- all rows, in order -/
def rws (O s : Nat → Nat) (Ls : List (List Nat)) : Prop := Ls.Pairwise lsl ∧ ∀ R, R ∈ Ls ↔ cvr O s R
def PL (O s : Nat → Nat) (a b m : Nat) (Ls : List (List Nat)) : Prop := Ls.Pairwise lsl ∧ ∀ R, R ∈ Ls ↔ (cvr O s R ∧ ∃ x R', m ≤ x ∧ (O a &&& O b).testBit x = true ∧ R = ks_nd (wh O a b) (2 ^ x) :: R')
theorem PL_n {n : Nat} {O s : Nat → Nat} {a b : Nat} (hw : gw n O) : PL O s a b n [] := by
  refine ⟨List.Pairwise.nil, fun R => ⟨fun h => (by cases h), ?_⟩⟩
  rintro ⟨-, x, R', h1, h2, -⟩
  rw [Nat.testBit_and, Bool.and_eq_true] at h2
  have := ks_bit_lt (hw.2.1 a) h2.1
  omega
theorem PL_skip {O s : Nat → Nat} {a b m : Nat} {Ls : List (List Nat)} (h : PL O s a b (m + 1) Ls) (hn : (O a &&& O b).testBit m = true → ¬ ∃ R', cvr O s (ks_nd (wh O a b) (2 ^ m) :: R')) : PL O s a b m Ls := by
  refine ⟨h.1, fun R => (h.2 R).trans ⟨?_, ?_⟩⟩
  · rintro ⟨h1, x, R', h2, h3⟩
    exact ⟨h1, x, R', by omega, h3⟩
  · rintro ⟨h1, x, R', h2, h3, rfl⟩
    refine ⟨h1, x, R', ?_, h3, rfl⟩
    rcases Nat.lt_or_ge m x with q | q
    · exact q
    · obtain rfl : x = m := by omega
      exact absurd ⟨R', h1⟩ (hn h3)
theorem pw_app {L1 L2 : List (List Nat)} (h1 : L1.Pairwise lsl) (h2 : L2.Pairwise lsl) (h : ∀ x, x ∈ L1 → ∀ y, y ∈ L2 → lsl x y) : (L1 ++ L2).Pairwise lsl := List.pairwise_append.mpr ⟨h1, h2, h⟩
theorem pw_map {C : Nat} {L : List (List Nat)} (h : L.Pairwise lsl) : (L.map fun R => C :: R).Pairwise lsl := List.pairwise_map.mpr (List.Pairwise.imp (fun q => lsl_tl q) h)
theorem nd_lt {A x y : Nat} (hA : A < 16384) (hx : A.testBit x = true) (hy : A.testBit y = true) (h : y < x) : ks_nd A (2 ^ x) < ks_nd A (2 ^ y) := by
  refine ks_ltb (i := x) ?_ ?_ fun j hj => ?_
  · cases e : (ks_nd A (2 ^ x)).testBit x with
    | false => rfl
    | true => exact absurd rfl ((ks_nd1t hA).mp e).2
  · exact (ks_nd1t hA).mpr ⟨hx, by omega⟩
  · rw [ks_nd1 hA, ks_nd1 hA, decide_eq_false (by omega), decide_eq_false (by omega)]
theorem nd_lt0 {A x : Nat} (hA : A < 16384) (hx : A.testBit x = true) : ks_nd A (2 ^ x) < A := by
  refine ks_ltb (i := x) ?_ hx fun j hj => ?_
  · cases e : (ks_nd A (2 ^ x)).testBit x with
    | false => rfl
    | true => exact absurd rfl ((ks_nd1t hA).mp e).2
  · rw [ks_nd1 hA, decide_eq_false (by omega)]
    simp
theorem wh_both {O : Nat → Nat} {a b x : Nat} (h : (O a &&& O b).testBit x = true) : (wh O a b).testBit x = true := by
  rw [Nat.testBit_and, Bool.and_eq_true] at h
  exact wh_bit.mpr (Or.inr (Or.inr h))
theorem PL_add {n : Nat} {O s : Nat → Nat} {a b m : Nat} {Ls L' : List (List Nat)} (hw : gw n O) (hf : fo O a b) (h : PL O s a b (m + 1) Ls) (hm : (O a &&& O b).testBit m = true) (hs : stp O s (ks_nd (wh O a b) (2 ^ m))) (h' : rws (kO O (ks_nd (wh O a b) (2 ^ m))) (kS s (ks_nd (wh O a b) (2 ^ m))) L') : PL O s a b m (Ls ++ L'.map fun R => ks_nd (wh O a b) (2 ^ m) :: R) := by
  have hl := ks_p14 hw.1 (wh_lt hw hf)
  refine ⟨pw_app h.1 (pw_map h'.1) fun x hx y hy => ?_, fun R => ?_⟩
  · obtain ⟨-, u, R', h1, h2, rfl⟩ := (h.2 x).mp hx
    obtain ⟨R2, -, rfl⟩ := List.mem_map.mp hy
    exact lsl_hd (nd_lt hl (wh_both h2) (wh_both hm) (by omega))
  · rw [List.mem_append, h.2 R, List.mem_map]
    constructor
    · rintro (⟨h1, x, R', h2, h3⟩ | ⟨R2, h1, rfl⟩)
      · exact ⟨h1, x, R', by omega, h3⟩
      · exact ⟨⟨hs, (h'.2 R2).mp h1⟩, m, R2, Nat.le_refl m, hm, rfl⟩
    · rintro ⟨h1, x, R', h2, h3, rfl⟩
      rcases Nat.lt_or_ge m x with q | q
      · exact Or.inl ⟨h1, x, R', q, h3, rfl⟩
      · obtain rfl : x = m := by omega
        exact Or.inr ⟨R', (h'.2 R').mpr h1.2, rfl⟩
theorem cv_cons {O s : Nat → Nat} {R : List Nat} {a b : Nat} (hf : fo O a b) (h : cvr O s R) : ∃ C R', R = C :: R' := by
  cases R with
  | nil => exact absurd (h a) (fo_ne hf)
  | cons C R' => exact ⟨C, R', rfl⟩
theorem PL_end0 {n : Nat} {O s : Nat → Nat} {a b : Nat} {Ls : List (List Nat)} (hw : gw n O) (hf : fo O a b) (h : PL O s a b 0 Ls) (hn : ¬ ∃ R', cvr O s (wh O a b :: R')) : rws O s Ls := by
  refine ⟨h.1, fun R => (h.2 R).trans ⟨fun q => q.1, fun q => ⟨q, ?_⟩⟩⟩
  obtain ⟨C, R', rfl⟩ := cv_cons hf q
  rcases cv_cand hw q hf with e | ⟨x, e1, e2⟩
  · subst e
    exact absurd ⟨R', q⟩ hn
  · exact ⟨x, R', Nat.zero_le _, e1, by rw [e2]⟩
theorem PL_end {n : Nat} {O s : Nat → Nat} {a b : Nat} {Ls L' : List (List Nat)} (hw : gw n O) (hf : fo O a b) (h : PL O s a b 0 Ls) (hs : stp O s (wh O a b)) (h' : rws (kO O (wh O a b)) (kS s (wh O a b)) L') : rws O s (Ls ++ L'.map fun R => wh O a b :: R) := by
  have hl := ks_p14 hw.1 (wh_lt hw hf)
  refine ⟨pw_app h.1 (pw_map h'.1) fun x hx y hy => ?_, fun R => ?_⟩
  · obtain ⟨-, u, R', h1, h2, rfl⟩ := (h.2 x).mp hx
    obtain ⟨R2, -, rfl⟩ := List.mem_map.mp hy
    exact lsl_hd (nd_lt0 hl (wh_both h2))
  · rw [List.mem_append, h.2 R, List.mem_map]
    constructor
    · rintro (⟨h1, -⟩ | ⟨R2, h1, rfl⟩)
      · exact h1
      · exact ⟨hs, (h'.2 R2).mp h1⟩
    · intro q
      obtain ⟨C, R', rfl⟩ := cv_cons hf q
      rcases cv_cand hw q hf with e | ⟨x, e1, e2⟩
      · subst e
        exact Or.inr ⟨R', (h'.2 R').mpr q.2, rfl⟩
      · exact Or.inl ⟨q, x, R', Nat.zero_le _, e1, by rw [e2]⟩
theorem fit_ab {n : Nat} {O : Nat → Nat} {a b m : Nat} (hw : gw n O) (hf : fo O a b) (hm : (O a &&& O b).testBit m = true) : (ks_nd (wh O a b) (2 ^ m)).testBit a = true ∧ (ks_nd (wh O a b) (2 ^ m)).testBit b = true := by
  have hl := ks_p14 hw.1 (wh_lt hw hf)
  rw [Nat.testBit_and, Bool.and_eq_true] at hm
  refine ⟨(ks_nd1t hl).mpr ⟨wh_bit.mpr (Or.inl rfl), ?_⟩, (ks_nd1t hl).mpr ⟨wh_bit.mpr (Or.inr (Or.inl rfl)), ?_⟩⟩
  · rintro rfl
    rw [hw.2.2.2.2] at hm
    cases hm.1
  · rintro rfl
    rw [hw.2.2.2.2] at hm
    cases hm.2
/-- there are such lists -/
theorem rws_ex {n : Nat} {T : Nat → Nat} (hT : gw n T) : ∀ (k : Nat) (R1 : List Nat), R1.length + k = 15 → val T (fun _ => 0) R1 → ∃ Ls, rws (kOR T R1) (kSR (fun _ => 0) R1) Ls := by
  intro k
  induction k with
  | zero =>
    intro R1 h1 h2
    have := val_n hT h2 fun _ => Nat.zero_le _
    have := hT.1
    omega
  | succ k ih =>
    intro R1 h1 h2
    have hw := gw_kOR R1 hT
    have rc : ∀ {C : Nat}, stp (kOR T R1) (kSR (fun _ => 0) R1) C → ∃ Ls, rws (kO (kOR T R1) C) (kS (kSR (fun _ => 0) R1) C) Ls := fun {C} hs => by
      have := ih (R1 ++ [C]) (by rw [List.length_append, List.length_singleton]; omega) ((val_snoc R1 _ _ C).mpr ⟨h2, hs⟩)
      rwa [kOR_snoc, kSR_snoc] at this
    generalize kOR T R1 = O at hw rc ⊢
    generalize kSR (fun _ => 0) R1 = s at rc ⊢
    rcases fo_ex hw with hz | ⟨a, b, hf⟩
    · refine ⟨[[]], List.pairwise_singleton _ _, fun R => ?_⟩
      rw [List.mem_singleton]
      constructor
      · rintro rfl
        exact hz
      · intro h
        cases R with
        | nil => rfl
        | cons C R =>
          obtain ⟨⟨a, b, f, -⟩, -⟩ := h.1
          exact absurd (hz a) (fo_ne f)
    · have key : ∀ m, ∃ Ls, PL O s a b (n - m) Ls := by
        intro m
        induction m with
        | zero => exact ⟨[], PL_n hw⟩
        | succ m im =>
          obtain ⟨Ls, hL⟩ := im
          by_cases e0 : n ≤ m
          · exact ⟨Ls, by rw [show n - (m + 1) = n - m from by omega]; exact hL⟩
          rw [show n - m = (n - (m + 1)) + 1 from by omega] at hL
          generalize n - (m + 1) = j at hL
          by_cases e : (O a &&& O b).testBit j = true ∧ stp O s (ks_nd (wh O a b) (2 ^ j))
          · obtain ⟨L', h'⟩ := rc e.2
            exact ⟨_, PL_add hw hf hL e.1 e.2 h'⟩
          · exact ⟨Ls, PL_skip hL fun q => by
              rintro ⟨R', r⟩
              exact e ⟨q, r.1⟩⟩
      obtain ⟨Ls, hL⟩ := key n
      rw [Nat.sub_self] at hL
      by_cases e : stp O s (wh O a b)
      · obtain ⟨L', h'⟩ := rc e
        exact ⟨_, PL_end hw hf hL e h'⟩
      · exact ⟨Ls, PL_end0 hw hf hL fun ⟨R', r⟩ => e r.1⟩
