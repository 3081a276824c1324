/-! one choice at each point for each cover, and two at most -/
theorem mt_up {n p a b : Nat} {T U E : Nat → Nat} {R : List Nat} (hw : gw n T) (hR : cvr T z0 R) (h : eI T U E p) (hm : mtc U p R) (hj : ∀ e i j, (e = a ∨ e = b) → i ≠ j → (gv U p a b e).testBit i = true → (gv U p a b e).testBit j = true → ∃ C, C ∈ R ∧ C.testBit p = true ∧ U e = cD C p) (hn : ∀ C, C ∈ R → C.testBit p = true → cD C p ≠ 0 → ∃ e, (e = a ∨ e = b) ∧ U e = cD C p) : mtc (gv U p a b) (p + 1) R := by
  intro e i j hij h1 h2
  have bp : ∀ {e k : Nat}, (U e).testBit k = true → k < p := fun {e k} hk => ks_bit_lt (h.1 e) hk
  by_cases q : e = a ∨ e = b
  · obtain ⟨C, c1, c2, c3⟩ := hj e i j q hij h1 h2
    refine ⟨C, c1, fun x => ?_⟩
    by_cases u : x = p
    · subst u
      rw [c2, (gv_p (h.1 e)).mpr q, decide_eq_true (by omega)]
      rfl
    · rw [gv_n u, c3, cD_bit]
      by_cases v : x < p
      · rw [decide_eq_true v, decide_eq_true (by omega)]
      · rw [decide_eq_false v, decide_eq_false (by omega)]
  · have eg : gv U p a b e = U e := if_neg q
    rw [eg] at h1 h2
    obtain ⟨C, c1, c2⟩ := hm e i j hij h1 h2
    refine ⟨C, c1, fun x => ?_⟩
    rw [eg]
    by_cases u : x = p
    · subst u
      cases v : C.testBit x with
      | false =>
        rw [Bool.and_false]
        cases w : (U e).testBit x with
        | false => rfl
        | true => exact absurd (bp w) (by omega)
      | true =>
        have eD : U e = cD C x := ks_ext fun y => by rw [c2 y, cD_bit]
        obtain ⟨e', g1, g2⟩ := hn C c1 v (by rw [← eD]; intro w; rw [w, Nat.zero_testBit] at h1; cases h1)
        have := h.2.2.2.2.2 e e' i j hij h1 h2 (by rw [g2, ← eD]; exact h1) (by rw [g2, ← eD]; exact h2)
        subst this
        exact absurd g1 q
    · rw [c2 x]
      by_cases v : x < p
      · rw [decide_eq_true v, decide_eq_true (by omega)]
      · rw [decide_eq_false v, decide_eq_false (by omega)]
theorem mt_nr {n p : Nat} {T : Nat → Nat} {R : List Nat} (hw : gw n T) (hR : cvr T z0 R) {i : Nat} : (nr T p).testBit i = true ↔ ∃ C, C ∈ R ∧ C.testBit p = true ∧ (cD C p).testBit i = true := by
  rw [nr_bit, cv_A R T z0 hw hR p i]
  constructor
  · rintro ⟨⟨h1, C, h2, h3, h4⟩, h5⟩
    exact ⟨C, h2, h3, cD_t.mpr ⟨h5, h4⟩⟩
  · rintro ⟨C, h2, h3, h4⟩
    obtain ⟨h5, h6⟩ := cD_t.mp h4
    exact ⟨⟨by omega, C, h2, h3, h6⟩, h5⟩
theorem mt_ex {n p : Nat} {T U E : Nat → Nat} {R : List Nat} (hw : gw n T) (hR : cvr T z0 R) (h : eI T U E p) (hm : mtc U p R) : ∃ a b, okc U p a b ∧ ftc T U p a b ∧ mtc (gv U p a b) (p + 1) R := by
  have z1 := h.2.1 (2 * p) (Nat.le_refl _)
  have z2 := h.2.1 (2 * p + 1) (by omega)
  have bp : ∀ {e k : Nat}, (U e).testBit k = true → k < p := fun {e k} hk => ks_bit_lt (h.1 e) hk
  have own : ∀ {a b e i j : Nat}, U e = 0 → i ≠ j → (gv U p a b e).testBit i = true → (gv U p a b e).testBit j = true → False := fun {a b e i j} hz hij h1 h2 => by
    have : ∀ k, (gv U p a b e).testBit k = true → k = p := fun k hk => Classical.byContradiction fun w => by
      rw [gv_n w, hz, Nat.zero_testBit] at hk
      cases hk
    exact hij ((this i h1).trans (this j h2).symm)
  by_cases q1 : ∃ C, C ∈ R ∧ C.testBit p = true ∧ cD C p ≠ 0
  · obtain ⟨C1, c1, c2, c3⟩ := q1
    obtain ⟨e1, l1, u1, f1⟩ := mt_K hw hR h hm c1 c3
    have n1 : U e1 ≠ 0 := by rw [u1]; exact c3
    by_cases q2 : ∃ C, C ∈ R ∧ C.testBit p = true ∧ cD C p ≠ 0 ∧ C ≠ C1
    · obtain ⟨C2, d1, d2, d3, d4⟩ := q2
      obtain ⟨e2, l2, u2, f2⟩ := mt_K hw hR h hm d1 d3
      have n2 : U e2 ≠ 0 := by rw [u2]; exact d3
      have same : ∀ i, (cD C1 p).testBit i = true → (cD C2 p).testBit i = true → False := fun i g1 g2 => by
        obtain ⟨g3, g4⟩ := cD_t.mp g1
        obtain ⟨-, g5⟩ := cD_t.mp g2
        exact d4 (cv_B R T z0 hw hR C2 C1 d1 c1 p i (by omega) d2 g5 c2 g4)
      have ne : e1 ≠ e2 := fun w => by
        obtain ⟨i, hi⟩ := ks_ne0.mp c3
        exact same i hi (by rw [← u2, ← w, u1]; exact hi)
      have three : ∀ C, C ∈ R → C.testBit p = true → C = C1 ∨ C = C2 := fun C g1 g2 => by
        rcases cv_D3 hR (p := p) (Nat.zero_le _) c1 d1 g1 c2 d2 g2 with w | w | w
        · exact absurd w.symm d4
        · exact Or.inl w.symm
        · exact Or.inr w.symm
      have fz : U e1 &&& U e2 = 0 := ks_zero.mpr fun i => by
        cases w : (U e1 &&& U e2).testBit i with
        | false => rfl
        | true =>
          rw [Nat.testBit_and, Bool.and_eq_true, u1, u2] at w
          exact (same i w.1 w.2).elim
      have fo' : U e1 ||| U e2 = nr T p := ks_ext fun i => by
        rw [Bool.eq_iff_iff, Nat.testBit_or, Bool.or_eq_true, mt_nr hw hR, u1, u2]
        constructor
        · rintro (w | w)
          · exact ⟨C1, c1, c2, w⟩
          · exact ⟨C2, d1, d2, w⟩
        · rintro ⟨C, g1, g2, g3⟩
          rcases three C g1 g2 with w | w
          · subst w
            exact Or.inl g3
          · subst w
            exact Or.inr g3
      have up : ∀ {a b : Nat}, ((a = e1 ∧ b = e2) ∨ (a = e2 ∧ b = e1)) → mtc (gv U p a b) (p + 1) R := fun {a b} hab => by
        refine mt_up hw hR h hm (fun e i j he _ _ _ => ?_) fun C g1 g2 g3 => ?_
        · have : e = e1 ∨ e = e2 := by omega
          rcases this with w | w
          · subst w
            exact ⟨C1, c1, c2, u1⟩
          · subst w
            exact ⟨C2, d1, d2, u2⟩
        · rcases three C g1 g2 with w | w
          · subst w
            exact ⟨e1, by omega, u1⟩
          · subst w
            exact ⟨e2, by omega, u2⟩
      rcases Nat.lt_or_ge e1 e2 with w | w
      · exact ⟨e1, e2, Or.inr (Or.inr ⟨w, l2, n1, n2, f1, f2⟩), ⟨fz, fo'⟩, up (Or.inl ⟨rfl, rfl⟩)⟩
      · exact ⟨e2, e1, Or.inr (Or.inr ⟨by omega, l1, n2, n1, f2, f1⟩), ⟨by rw [Nat.and_comm]; exact fz, by rw [Nat.or_comm]; exact fo'⟩, up (Or.inr ⟨rfl, rfl⟩)⟩
    · have one : ∀ C, C ∈ R → C.testBit p = true → cD C p ≠ 0 → C = C1 := fun C g1 g2 g3 => Classical.byContradiction fun w => q2 ⟨C, g1, g2, g3, w⟩
      refine ⟨e1, 2 * p, Or.inr (Or.inl ⟨l1, n1, f1, rfl⟩), ⟨by rw [z1, Nat.and_zero], ks_ext fun i => ?_⟩, mt_up hw hR h hm (fun e i j he hij g1 g2 => ?_) fun C g1 g2 g3 => ?_⟩
      · rw [z1, Nat.or_zero, Bool.eq_iff_iff, mt_nr hw hR, u1]
        constructor
        · intro w
          exact ⟨C1, c1, c2, w⟩
        · rintro ⟨C, g1, g2, g3⟩
          have := one C g1 g2 (ks_ne0.mpr ⟨i, g3⟩)
          subst this
          exact g3
      · rcases he with w | w
        · subst w
          exact ⟨C1, c1, c2, u1⟩
        · subst w
          exact (own z1 hij g1 g2).elim
      · have := one C g1 g2 g3
        subst this
        exact ⟨e1, Or.inl rfl, u1⟩
  · refine ⟨2 * p, 2 * p + 1, Or.inl ⟨rfl, rfl⟩, ⟨by rw [z1, Nat.zero_and], ?_⟩, mt_up hw hR h hm (fun e i j he hij g1 g2 => ?_) fun C g1 g2 g3 => absurd ⟨C, g1, g2, g3⟩ q1⟩
    · rw [z1, z2]
      refine (ks_zero.mpr fun i => ?_).symm
      cases w : (nr T p).testBit i with
      | false => rfl
      | true =>
        obtain ⟨C, g1, g2, g3⟩ := (mt_nr hw hR).mp w
        exact absurd ⟨C, g1, g2, ks_ne0.mpr ⟨i, g3⟩⟩ q1
    · rcases he with w | w
      · subst w
        exact (own z1 hij g1 g2).elim
      · subst w
        exact (own z2 hij g1 g2).elim
theorem ok_nz {T U E : Nat → Nat} {p a b x : Nat} (h : eI T U E p) (hc : okc U p a b) (hx : x = a ∨ x = b) (hn : U x ≠ 0) : x < 2 * p ∧ fre U x := by
  have lt : x < 2 * p := Nat.lt_of_not_le fun w => hn (h.2.1 x w)
  obtain ⟨c1, c2, c3, c4, c5, c6, c7, c8⟩ := okc_ne hc
  rcases hx with w | w
  · subst w
    exact ⟨lt, (c5 lt).2⟩
  · subst w
    exact ⟨lt, (c6 lt).2⟩
/-- choices with the same used ends are the same -/
theorem ok_eq {T U E : Nat → Nat} {p a b a' b' : Nat} (h : eI T U E p) (hc : okc U p a b) (hc' : okc U p a' b') (h1 : ∀ x, (x = a ∨ x = b) → U x ≠ 0 → (x = a' ∨ x = b')) (h2 : ∀ x, (x = a' ∨ x = b') → U x ≠ 0 → (x = a ∨ x = b)) : a = a' ∧ b = b' := by
  have z1 := h.2.1 (2 * p) (Nat.le_refl _)
  have z2 := h.2.1 (2 * p + 1) (by omega)
  rcases hc with ⟨p1, p2⟩ | ⟨p1, p2, p3, p4⟩ | ⟨p1, p2, p3, p4, p5, p6⟩
  · rcases hc' with ⟨q1, q2⟩ | ⟨q1, q2, q3, q4⟩ | ⟨q1, q2, q3, q4, q5, q6⟩
    · omega
    · have := h2 a' (Or.inl rfl) q2
      omega
    · have := h2 a' (Or.inl rfl) q3
      omega
  · have k1 := h1 a (Or.inl rfl) p2
    rcases hc' with ⟨q1, q2⟩ | ⟨q1, q2, q3, q4⟩ | ⟨q1, q2, q3, q4, q5, q6⟩
    · omega
    · omega
    · have := h2 a' (Or.inl rfl) q3
      have := h2 b' (Or.inr rfl) q4
      omega
  · have k1 := h1 a (Or.inl rfl) p3
    have k2 := h1 b (Or.inr rfl) p4
    rcases hc' with ⟨q1, q2⟩ | ⟨q1, q2, q3, q4⟩ | ⟨q1, q2, q3, q4, q5, q6⟩
    · omega
    · omega
    · omega
theorem mt_at {T U E : Nat → Nat} {p a b x : Nat} {R : List Nat} (h : eI T U E p) (hm : mtc (gv U p a b) (p + 1) R) (hx : x = a ∨ x = b) (hn : U x ≠ 0) : ∃ C, C ∈ R ∧ C.testBit p = true ∧ U x = cD C p := by
  obtain ⟨i, hi⟩ := ks_ne0.mp hn
  have ip := ks_bit_lt (h.1 x) hi
  have xp := (gv_p (b := b) (a := a) (h.1 x)).mpr hx
  obtain ⟨C, c1, c2⟩ := hm x i p (by omega) (by rw [gv_n (by omega)]; exact hi) xp
  refine ⟨C, c1, ?_, ks_ext fun y => ?_⟩
  · have := c2 p
    rw [xp, decide_eq_true (by omega), Bool.true_and] at this
    exact this.symm
  · rw [cD_bit]
    by_cases q : y < p
    · have := c2 y
      rw [gv_n (by omega), decide_eq_true (by omega)] at this
      rw [decide_eq_true q]
      exact this
    · rw [decide_eq_false q, Bool.false_and]
      cases u : (U x).testBit y with
      | false => rfl
      | true => exact absurd (ks_bit_lt (h.1 x) u) q
theorem mt_half {n p a b a' b' : Nat} {T U E : Nat → Nat} {R : List Nat} (hw : gw n T) (hR : cvr T z0 R) (h : eI T U E p) (hc : okc U p a b) (hc' : okc U p a' b') (hf : ftc T U p a b) (hf' : ftc T U p a' b') (hm : mtc (gv U p a b) (p + 1) R) (hm' : mtc (gv U p a' b') (p + 1) R) : ∀ x, (x = a ∨ x = b) → U x ≠ 0 → (x = a' ∨ x = b') := by
  intro x hx hn
  obtain ⟨C, c1, c2, c3⟩ := mt_at h hm hx hn
  obtain ⟨i, hi⟩ := ks_ne0.mp hn
  have ip := ks_bit_lt (h.1 x) hi
  have hnr : (nr T p).testBit i = true := (ftc_or hf).mpr (by
    rcases hx with w | w
    · subst w
      exact Or.inl hi
    · subst w
      exact Or.inr hi)
  have key : ∀ y, (y = a' ∨ y = b') → (U y).testBit i = true → x = y := fun y hy hyi => by
    have yn : U y ≠ 0 := ks_ne0.mpr ⟨i, hyi⟩
    obtain ⟨D, d1, d2, d3⟩ := mt_at h hm' hy yn
    have iC : C.testBit i = true := (cD_t.mp (c3 ▸ hi)).2
    have iD : D.testBit i = true := (cD_t.mp (d3 ▸ hyi)).2
    have := cv_B R T z0 hw hR C D c1 d1 p i (by omega) c2 iC d2 iD
    subst this
    exact fre_u h hn (c3.trans d3.symm) (ok_nz h hc hx hn).2 (ok_nz h hc' hy yn).2
  rcases (ftc_or hf').mp hnr with w | w
  · exact Or.inl (key a' (Or.inl rfl) w)
  · exact Or.inr (key b' (Or.inr rfl) w)
theorem mt_un {n p a b a' b' : Nat} {T U E : Nat → Nat} {R : List Nat} (hw : gw n T) (hR : cvr T z0 R) (h : eI T U E p) (hc : okc U p a b) (hc' : okc U p a' b') (hf : ftc T U p a b) (hf' : ftc T U p a' b') (hm : mtc (gv U p a b) (p + 1) R) (hm' : mtc (gv U p a' b') (p + 1) R) : a = a' ∧ b = b' :=
  ok_eq h hc hc' (mt_half hw hR h hc hc' hf hf' hm hm') (mt_half hw hR h hc' hc hf' hf hm' hm)
theorem ch_half {p a b a' b' x : Nat} {T U E : Nat → Nat} (h : eI T U E p) (hc : okc U p a b) (hc' : okc U p a' b') (hf : ftc T U p a b) (hf' : ftc T U p a' b') (hx : x = a ∨ x = b) (hx' : x = a' ∨ x = b') : ∀ y, (y = a ∨ y = b) → U y ≠ 0 → (y = a' ∨ y = b') := by
  intro y hy hn
  by_cases q : y = x
  · subst q
    exact hx'
  · obtain ⟨y', hy', ne⟩ : ∃ y', (y' = a' ∨ y' = b') ∧ y' ≠ x := by
      have := (okc_ne hc').1
      rcases hx' with w | w
      · exact ⟨b', Or.inr rfl, by omega⟩
      · exact ⟨a', Or.inl rfl, by omega⟩
    have e1 : ∀ i, (U y).testBit i = true ↔ ((nr T p).testBit i = true ∧ ¬ (U x).testBit i = true) := fun i => by
      rw [ftc_or hf]
      rcases hx with u | u <;> rcases hy with v | v <;> subst u <;> subst v
      · exact absurd rfl q
      · exact ⟨fun w => ⟨Or.inr w, fun w2 => ftc_no hf w2 w⟩, fun w => w.1.resolve_left w.2⟩
      · exact ⟨fun w => ⟨Or.inl w, fun w2 => ftc_no hf w w2⟩, fun w => w.1.resolve_right w.2⟩
      · exact absurd rfl q
    have e2 : ∀ i, (U y').testBit i = true ↔ ((nr T p).testBit i = true ∧ ¬ (U x).testBit i = true) := fun i => by
      rw [ftc_or hf']
      rcases hx' with u | u <;> rcases hy' with v | v <;> subst u <;> subst v
      · exact absurd rfl ne
      · exact ⟨fun w => ⟨Or.inr w, fun w2 => ftc_no hf' w2 w⟩, fun w => w.1.resolve_left w.2⟩
      · exact ⟨fun w => ⟨Or.inl w, fun w2 => ftc_no hf' w w2⟩, fun w => w.1.resolve_right w.2⟩
      · exact absurd rfl ne
    have e : U y = U y' := ks_ext fun i => by rw [Bool.eq_iff_iff, e1, e2]
    have := fre_u h hn e (ok_nz h hc hy hn).2 (ok_nz h hc' hy' (by rw [← e]; exact hn)).2
    subst this
    exact hy'
theorem ch_same {p a b a' b' x : Nat} {T U E : Nat → Nat} (h : eI T U E p) (hc : okc U p a b) (hc' : okc U p a' b') (hf : ftc T U p a b) (hf' : ftc T U p a' b') (hx : x = a ∨ x = b) (hx' : x = a' ∨ x = b') : a = a' ∧ b = b' :=
  ok_eq h hc hc' (ch_half h hc hc' hf hf' hx hx') (ch_half h hc' hc hf' hf hx' hx)
theorem ch_x {p a b : Nat} {T U E : Nat → Nat} (h : eI T U E p) (hc : okc U p a b) (hf : ftc T U p a b) : (nr T p = 0 ∧ a = 2 * p ∧ b = 2 * p + 1) ∨ ∃ k, (nr T p).testBit k = true ∧ ∀ i, (nr T p).testBit i = true → ∃ x, (x = a ∨ x = b) ∧ (x = E (2 * i) ∨ x = E (2 * i + 1)) := by
  by_cases q : nr T p = 0
  · left
    refine ⟨q, ?_⟩
    have : U a = 0 := ks_zero.mpr fun i => by
      cases w : (U a).testBit i with
      | false => rfl
      | true =>
        have := (ftc_or hf).mpr (Or.inl w)
        rw [q, Nat.zero_testBit] at this
        cases this
    exact (okc_ne hc).2.2.2.1 this
  · obtain ⟨k, hk⟩ := ks_ne0.mp q
    refine Or.inr ⟨k, hk, fun i hi => ?_⟩
    have ip : i < p := (nr_bit.mp hi).2
    rcases (ftc_or hf).mp hi with w | w
    · exact ⟨a, Or.inl rfl, ((h.2.2.1 i ip).2.2.2 a).mp w⟩
    · exact ⟨b, Or.inr rfl, ((h.2.2.1 i ip).2.2.2 b).mp w⟩
theorem ch_2 {p : Nat} {T U E : Nat → Nat} (h : eI T U E p) : ∀ (L : List (Nat × Nat)), L.Nodup → (∀ c, c ∈ L → okc U p c.1 c.2 ∧ ftc T U p c.1 c.2) → L.length ≤ 2
  | [], _, _ => by decide
  | [_], _, _ => show 1 ≤ 2 by decide
  | [_, _], _, _ => show 2 ≤ 2 by decide
  | c1 :: c2 :: c3 :: L, hn, hc => by
    exfalso
    obtain ⟨m1, n1⟩ := List.nodup_cons.mp hn
    obtain ⟨m2, n2⟩ := List.nodup_cons.mp n1
    obtain ⟨a1, b1⟩ := hc c1 List.mem_cons_self
    obtain ⟨a2, b2⟩ := hc c2 (List.mem_cons_of_mem _ List.mem_cons_self)
    obtain ⟨a3, b3⟩ := hc c3 (List.mem_cons_of_mem _ (List.mem_cons_of_mem _ List.mem_cons_self))
    have ne12 : c1 ≠ c2 := fun w => m1 (by rw [w]; exact List.mem_cons_self)
    have ne13 : c1 ≠ c3 := fun w => m1 (by rw [w]; exact List.mem_cons_of_mem _ List.mem_cons_self)
    have ne23 : c2 ≠ c3 := fun w => m2 (by rw [w]; exact List.mem_cons_self)
    have pe : ∀ {c d : Nat × Nat}, c.1 = d.1 ∧ c.2 = d.2 → c = d := fun {c d} w => Prod.ext w.1 w.2
    rcases ch_x h a1 b1 with ⟨z, p1, p2⟩ | ⟨k, hk, g1⟩
    · rcases ch_x h a2 b2 with ⟨-, q1, q2⟩ | ⟨k, hk, -⟩
      · exact ne12 (pe ⟨by omega, by omega⟩)
      · rw [z, Nat.zero_testBit] at hk
        cases hk
    · have G : ∀ {c : Nat × Nat}, okc U p c.1 c.2 → ftc T U p c.1 c.2 → ∃ x, (x = c.1 ∨ x = c.2) ∧ (x = E (2 * k) ∨ x = E (2 * k + 1)) := fun {c} u v => by
        rcases ch_x h u v with ⟨z, -, -⟩ | ⟨k', -, g⟩
        · rw [z, Nat.zero_testBit] at hk
          cases hk
        · exact g k hk
      obtain ⟨x1, u1, v1⟩ := G a1 b1
      obtain ⟨x2, u2, v2⟩ := G a2 b2
      obtain ⟨x3, u3, v3⟩ := G a3 b3
      have : x1 = x2 ∨ x1 = x3 ∨ x2 = x3 := by omega
      rcases this with w | w | w
      · subst w
        exact ne12 (pe (ch_same h a1 a2 b1 b2 u1 u2))
      · subst w
        exact ne13 (pe (ch_same h a1 a3 b1 b3 u1 u3))
      · subst w
        exact ne23 (pe (ch_same h a2 a3 b2 b3 u2 u3))
/-! the row that the ends of all points tell -/
theorem kOR_bit {n : Nat} : ∀ (R : List Nat) (O : Nat → Nat), gw n O → ∀ x y, (kOR O R x).testBit y = true ↔ ((O x).testBit y = true ∧ ∀ C, C ∈ R → ¬ (C.testBit x = true ∧ C.testBit y = true))
  | [], O, _, x, y => ⟨fun h => ⟨h, fun C hC => (by cases hC)⟩, fun h => h.1⟩
  | D :: R, O, hw, x, y => by
    show (kOR (kO O D) R x).testBit y = true ↔ _
    rw [kOR_bit R (kO O D) (gw_kO hw) x y, kO_bit hw]
    constructor
    · rintro ⟨⟨h1, h2⟩, h3⟩
      refine ⟨h1, fun C hC => ?_⟩
      rcases List.mem_cons.mp hC with w | w
      · subst w
        exact h2
      · exact h3 C w
    · rintro ⟨h1, h2⟩
      exact ⟨⟨h1, h2 D List.mem_cons_self⟩, fun C hC => h2 C (List.mem_cons_of_mem _ hC)⟩
theorem kSR_eq : ∀ (R : List Nat) (s : Nat → Nat) (x : Nat), kSR s R x = s x + (R.filter fun C => C.testBit x).length
  | [], _, _ => rfl
  | D :: R, s, x => by
    show kSR (kS s D) R x = _
    rw [kSR_eq R (kS s D) x]
    unfold kS
    by_cases e : D.testBit x = true
    · rw [if_pos e, List.filter_cons_of_pos (p := fun C => Nat.testBit C x) e, List.length_cons]
      omega
    · rw [if_neg e, List.filter_cons_of_neg (p := fun C => Nat.testBit C x) (by simpa using e)]
def lbf (i j p q : Nat) : Prop := i < p ∨ (i = p ∧ j < q)
/-- the lines ahead of (p, q) are done with -/
def xr0 (n : Nat) (T U : Nat → Nat) (p q : Nat) (es : List Nat) : Prop := es.Nodup ∧ (∀ e, e ∈ es → ∃ i j, i ≠ j ∧ (U e).testBit i = true ∧ (U e).testBit j = true) ∧ val T z0 (es.map U) ∧ ∀ i j, i < j → j < n → (T i).testBit j = true → lbf i j p q → ∃ e, e ∈ es ∧ (U e).testBit i = true ∧ (U e).testBit j = true
theorem xr0_0 {n : Nat} {T U : Nat → Nat} : xr0 n T U 0 0 [] := ⟨List.nodup_nil, fun e he => (by cases he), trivial, fun i j _ _ _ h => by
  unfold lbf at h
  omega⟩
theorem xr0_n {n p q p' q' : Nat} {T U : Nat → Nat} {es : List Nat} (h : xr0 n T U p q es) (hs : ∀ i j, i < j → j < n → (T i).testBit j = true → lbf i j p' q' → lbf i j p q ∨ ∃ e, e ∈ es ∧ (U e).testBit i = true ∧ (U e).testBit j = true) : xr0 n T U p' q' es := ⟨h.1, h.2.1, h.2.2.1, fun i j h1 h2 h3 h4 => by
  rcases hs i j h1 h2 h3 h4 with w | w
  · exact h.2.2.2 i j h1 h2 h3 w
  · exact w⟩
theorem xr0_s {n p q e : Nat} {T U E : Nat → Nat} {es : List Nat} (hw : gw n T) (hI : eI T U E n) (h : xr0 n T U p q es) (hpq : p < q) (hq : q < n) (h1 : (U e).testBit p = true) (h2 : (U e).testBit q = true) (hn : e ∉ es) : xr0 n T U p (q + 1) (es ++ [e]) := by
  obtain ⟨a1, a2, a3, a4⟩ := h
  have ht : (T p).testBit q = true := (hI.2.2.2.2.1 p q (by omega) hq (by omega)).mpr ⟨e, h1, h2⟩
  have ob : ∀ x y, (kOR T (es.map U) x).testBit y = true ↔ ((T x).testBit y = true ∧ ∀ e', e' ∈ es → ¬ ((U e').testBit x = true ∧ (U e').testBit y = true)) := fun x y => by
    rw [kOR_bit _ T hw]
    constructor
    · rintro ⟨g1, g2⟩
      exact ⟨g1, fun e' he' => g2 (U e') (List.mem_map.mpr ⟨e', he', rfl⟩)⟩
    · rintro ⟨g1, g2⟩
      refine ⟨g1, fun C hC => ?_⟩
      obtain ⟨e', he', rfl⟩ := List.mem_map.mp hC
      exact g2 e' he'
  have cov : ∀ i j, i ≠ j → (T i).testBit j = true → (lbf i j p q ∧ i < j ∨ lbf j i p q ∧ j < i) → (kOR T (es.map U) i).testBit j = true → False := fun i j hij hT hl ho => by
    obtain ⟨-, g2⟩ := (ob i j).mp ho
    rcases hl with ⟨w1, w2⟩ | ⟨w1, w2⟩
    · obtain ⟨e', k1, k2, k3⟩ := a4 i j w2 (ks_bit_lt (hw.2.1 i) hT) hT w1
      exact g2 e' k1 ⟨k2, k3⟩
    · have hT2 : (T j).testBit i = true := by rw [hw.2.2.2.1]; exact hT
      obtain ⟨e', k1, k2, k3⟩ := a4 j i w2 (ks_bit_lt (hw.2.1 j) hT2) hT2 w1
      exact g2 e' k1 ⟨k3, k2⟩
  have irr : ∀ {i j : Nat}, (T i).testBit j = true → i ≠ j := fun {i j} w u => by
    subst u
    rw [hw.2.2.2.2] at w
    cases w
  have op : (kOR T (es.map U) p).testBit q = true := (ob p q).mpr ⟨ht, fun e' he' w => hn (by rw [hI.2.2.2.2.2 e e' p q (by omega) h1 h2 w.1 w.2]; exact he')⟩
  refine ⟨List.nodup_append.mpr ⟨a1, List.pairwise_singleton _ e, fun x hx y hy => ?_⟩, fun e' he' => ?_, ?_, fun i j g1 g2 g3 g4 => ?_⟩
  · rw [List.mem_singleton] at hy
    subst hy
    exact fun w => hn (w ▸ hx)
  · rcases List.mem_append.mp he' with w | w
    · exact a2 e' w
    · rw [List.mem_singleton] at w
      subst w
      exact ⟨p, q, by omega, h1, h2⟩
  · rw [List.map_append, List.map_singleton, val_snoc]
    refine ⟨a3, ⟨p, q, ⟨fun i hi => ks_zero.mpr fun j => ?_, op, fun y hy => ?_⟩, h1, h2⟩, fun x y hx hy hxy => ?_, fun x hx => ?_⟩
    · cases w : (kOR T (es.map U) i).testBit j with
      | false => rfl
      | true =>
        have hT := ((ob i j).mp w).1
        have := irr hT
        refine (cov i j this hT ?_ w).elim
        unfold lbf
        omega
    · cases w : (kOR T (es.map U) p).testBit y with
      | false => rfl
      | true =>
        have hT := ((ob p y).mp w).1
        have := irr hT
        refine (cov p y this hT ?_ w).elim
        unfold lbf
        omega
    · have xl : x < n := ks_bit_lt (hI.1 e) hx
      have yl : y < n := ks_bit_lt (hI.1 e) hy
      refine (ob x y).mpr ⟨(hI.2.2.2.2.1 x y xl yl hxy).mpr ⟨e, hx, hy⟩, fun e' he' w => hn ?_⟩
      rw [hI.2.2.2.2.2 e e' x y hxy hx hy w.1 w.2]
      exact he'
    · have xl : x < n := ks_bit_lt (hI.1 e) hx
      obtain ⟨-, -, k3, k4⟩ := hI.2.2.1 x xl
      rw [kSR_eq, Nat.zero_add, List.filter_map, List.length_map]
      obtain ⟨w, hwd⟩ : ∃ w, ∀ e', e' ≠ e → (U e').testBit x = true → e' = w := by
        rcases (k4 e).mp hx with u | u
        · refine ⟨E (2 * x + 1), fun e' g1 g2 => ?_⟩
          rcases (k4 e').mp g2 with v | v
          · exact absurd (v.trans u.symm) g1
          · exact v
        · refine ⟨E (2 * x), fun e' g1 g2 => ?_⟩
          rcases (k4 e').mp g2 with v | v
          · exact v
          · exact absurd (v.trans u.symm) g1
      refine ll_len _ [w] (List.Pairwise.filter _ a1) fun e' he' => ?_
      obtain ⟨g1, g2⟩ := List.mem_filter.mp he'
      rw [List.mem_singleton]
      exact hwd e' (fun u => hn (u ▸ g1)) g2
  · by_cases w : lbf i j p q
    · obtain ⟨e', k1, k2, k3⟩ := a4 i j g1 g2 g3 w
      exact ⟨e', List.mem_append.mpr (Or.inl k1), k2, k3⟩
    · unfold lbf at w g4
      obtain ⟨rfl, rfl⟩ : i = p ∧ j = q := by omega
      exact ⟨e, List.mem_append.mpr (Or.inr (List.mem_singleton.mpr rfl)), h1, h2⟩
theorem xr0_end {n p q : Nat} {T U E : Nat → Nat} {es : List Nat} (hw : gw n T) (hI : eI T U E n) (h : xr0 n T U p q es) (hp : n ≤ p) : ∀ R, (cvr T z0 R ∧ mtc U n R) ↔ R = es.map U := by
  obtain ⟨a1, a2, a3, a4⟩ := h
  have cov : ∀ i j, i ≠ j → (T i).testBit j = true → ∃ e, e ∈ es ∧ (U e).testBit i = true ∧ (U e).testBit j = true := fun i j hij hT => by
    have hT2 : (T j).testBit i = true := by rw [hw.2.2.2.1]; exact hT
    have il := ks_bit_lt (hw.2.1 j) hT2
    have jl := ks_bit_lt (hw.2.1 i) hT
    rcases Nat.lt_or_ge i j with w | w
    · exact a4 i j w jl hT (Or.inl (by omega))
    · obtain ⟨e, g1, g2, g3⟩ := a4 j i (by omega) il hT2 (Or.inl (by omega))
      exact ⟨e, g1, g3, g2⟩
  have c0' : cvr T z0 (es.map U) := by
    have := (cvr_app (es.map U) T z0 []).mpr ⟨a3, fun x => ks_zero.mpr fun y => ?_⟩
    · rwa [List.append_nil] at this
    · cases w : (kOR T (es.map U) x).testBit y with
      | false => rfl
      | true =>
        obtain ⟨g1, g2⟩ := (kOR_bit _ T hw x y).mp w
        have hxy : x ≠ y := fun u => by
          subst u
          rw [hw.2.2.2.2] at g1
          cases g1
        obtain ⟨e, k1, k2, k3⟩ := cov x y hxy g1
        exact absurd ⟨k2, k3⟩ (g2 (U e) (List.mem_map.mpr ⟨e, k1, rfl⟩))
  intro R
  constructor
  · rintro ⟨hR, hm⟩
    have full : ∀ {e i j : Nat}, i ≠ j → (U e).testBit i = true → (U e).testBit j = true → U e ∈ R := fun {e i j} hij g1 g2 => by
      obtain ⟨C, c1, c2⟩ := hm e i j hij g1 g2
      have : U e = C := ks_ext fun x => by
        rw [c2 x]
        by_cases w : x < n
        · rw [decide_eq_true w, Bool.true_and]
        · rw [decide_eq_false w, Bool.false_and]
          cases u : C.testBit x with
          | false => rfl
          | true => exact absurd (ks_bit_lt (cv_C R T z0 hw hR C c1).2 u) w
      rw [this]
      exact c1
    refine cv_ext R T z0 (es.map U) hw hR c0' fun C => ⟨fun hC => ?_, fun hC => ?_⟩
    · obtain ⟨⟨i, j, g1, g2, g3, g4⟩, -⟩ := cv_C R T z0 hw hR C hC
      obtain ⟨e, k1, k2, k3⟩ := cov i j (by omega) g4
      have := cv_B R T z0 hw hR C (U e) hC (full (by omega) k2 k3) i j (by omega) g2 g3 k2 k3
      exact List.mem_map.mpr ⟨e, k1, this.symm⟩
    · obtain ⟨e, he, rfl⟩ := List.mem_map.mp hC
      obtain ⟨i, j, g1, g2, g3⟩ := a2 e he
      exact full g1 g2 g3
  · rintro rfl
    refine ⟨c0', fun e i j hij g1 g2 => ?_⟩
    have il := ks_bit_lt (hI.1 e) g1
    have jl := ks_bit_lt (hI.1 e) g2
    obtain ⟨e', k1, k2, k3⟩ := cov i j hij ((hI.2.2.2.2.1 i j il jl hij).mpr ⟨e, g1, g2⟩)
    have := hI.2.2.2.2.2 e e' i j hij g1 g2 k2 k3
    subst this
    refine ⟨U e, List.mem_map.mpr ⟨e, k1, rfl⟩, fun x => ?_⟩
    by_cases w : x < n
    · rw [decide_eq_true w, Bool.true_and]
    · rw [decide_eq_false w, Bool.false_and]
      cases u : (U e).testBit x with
      | false => rfl
      | true => exact absurd (ks_bit_lt (hI.1 e) u) w
