/-! ACTS THAT CAN BE UNDONE: the class's ring -/
abbrev g_nets : Type := List (Nat × (Nat → Nat))
def ac (M : mm_Mem) (o : Nat) (C : Nat → Int32) (L : g_nets) : Prop := mm_at M 26 (mm_aO 0 [.ref 27, .int (nI o), .int (nI L.length)]) ∧ mm_at M 27 (mm_aO 7 [.ref 28]) ∧ mm_at M 28 (mm_aI 120 C) ∧ o < 8 ∧ L.length ≤ 8 ∧ ∀ (j : Nat) (q : Nat × (Nat → Nat)), L[j]? = some q → sl_at C (15 * ((o + j) % 8)) q.1 q.2 ∧ gw q.1 q.2
def acts (M : mm_Mem) (L : g_nets) : Prop := ∃ (o : Nat) (C : Nat → Int32), ac M o C L
theorem acts.eq {M M' : mm_Mem} {L : g_nets} (h : acts M L) (e : ∀ j, 26 ≤ j → j ≤ 28 → M' j = M j) : acts M' L := by
  obtain ⟨o, C, h1, h2, h3, h4⟩ := h
  exact ⟨o, C, ⟨h1.1, (e 26 (by decide) (by decide)).trans h1.2⟩, ⟨h2.1, (e 27 (by decide) (by decide)).trans h2.2⟩, ⟨h3.1, (e 28 (by decide) (by decide)).trans h3.2⟩, h4⟩
/-- one more, eight at most -/
def g_kp (L : g_nets) (q : Nat × (Nat → Nat)) : g_nets := (if L.length = 8 then L.tail else L) ++ [q]
theorem ks_rem8 {a : Nat} (ha : a < 2 ^ 31) : mm_rem (nI a) 8 = nI (a % 8) := pk_rem (d := 8) ha (by decide) (by decide)
theorem s_keep {M : mm_Mem} {k n : Nat} {T : Nat → Nat} {L : g_nets} (h : acts M L) (o : na M k n T) (hw : gw n T) (hk : k + 1 < 26) : mm_S 3 mX0_keep 0 0 [.ref 26, .ref k] M (fun r M' => r = none ∧ acts M' (g_kp L (n, T)) ∧ ∀ j, j ≠ 26 → j ≠ 28 → M' j = M j) := by
  obtain ⟨a, C, h1, h2, h3, h4, h5, h6⟩ := h
  refine mm_S.of rfl rfl (Nat.le_of_ble_eq_true rfl) (fun r M' h x e => by rw [h.1] at e; cases e) (bX0_keep_0 h1 h2 (by decide) (fun c => ?_) (fun c => ?_))
  · rw [show (8 : Int32) = nI 8 from rfl, ks_eqI (by omega) (by decide)] at c
    rw [nI_add, ks_rem8 (by omega)]
    refine mm_Call.eq (s_save h2 h3 o (by omega) (by decide) (by omega) (by omega)) (by decide) (bX0_keep_52 (h1.n (by decide)) ⟨rfl, ⟨a, sl_put C (15 * ((a + L.length) % 8)) n T, ?_, ?_, ?_, h4, ?_, ?_⟩, fun j j1 j2 => by rw [mm_up_n j1, mm_up_n j2]⟩)
    · rw [nI_1]
      unfold g_kp
      rw [if_neg c, List.length_append]
      exact mm_at.s h1.1
    · exact (h2.n (by decide)).n (by decide)
    · exact (mm_at.s h3.1).n (by decide)
    · unfold g_kp
      rw [if_neg c, List.length_append, List.length_singleton]
      omega
    · intro j q hq
      unfold g_kp at hq
      rw [if_neg c] at hq
      by_cases e : j < L.length
      · rw [List.getElem?_append_left e] at hq
        obtain ⟨g1, g2⟩ := h6 j q hq
        exact ⟨sl_put_n g1 (by omega), g2⟩
      · rw [List.getElem?_append_right (by omega)] at hq
        have e2 : j = L.length := by
          have := (List.getElem?_eq_some_iff.mp hq).1
          simp at this
          omega
        subst e2
        rw [Nat.sub_self] at hq
        cases hq
        exact ⟨sl_put_at, hw⟩
  · rw [show (8 : Int32) = nI 8 from rfl, ks_eqI (by omega) (by decide)] at c
    rw [nI_1, ks_rem8 (by omega), c, show nI 8 - 1 = nI 7 from rfl, nI_add, ks_rem8 (by omega)]
    refine mm_Call.eq (s_save (h2.n (by decide)) (h3.n (by decide)) ⟨o.1.n (by omega), o.2.n (by omega)⟩ (by omega) (by decide) (by omega) (by omega)) (by decide) (bX0_keep_52 ((mm_at.s h1.1).n (by decide)) ⟨rfl, ⟨(a + 1) % 8, sl_put C (15 * (((a + 1) % 8 + 7) % 8)) n T, ?_, ?_, ?_, by omega, ?_, ?_⟩, fun j j1 j2 => by rw [mm_up_n j1, mm_up_n j2, mm_up_n j1]⟩)
    · unfold g_kp
      rw [if_pos c, List.length_append, List.length_tail, c]
      exact mm_at.s h1.1
    · exact ((h2.n (by decide)).n (by decide)).n (by decide)
    · exact (mm_at.s h3.1).n (by decide)
    · unfold g_kp
      rw [if_pos c, List.length_append, List.length_tail, c]
      exact Nat.le_of_ble_eq_true rfl
    · intro j q hq
      unfold g_kp at hq
      rw [if_pos c] at hq
      by_cases e : j < L.tail.length
      · rw [List.getElem?_append_left e, List.getElem?_tail] at hq
        rw [List.length_tail] at e
        obtain ⟨g1, g2⟩ := h6 (j + 1) q hq
        rw [show ((a + 1) % 8 + j) % 8 = (a + (j + 1)) % 8 by omega]
        exact ⟨sl_put_n g1 (by omega), g2⟩
      · rw [List.getElem?_append_right (by omega)] at hq
        have e2 : j = 7 := by
          have := (List.getElem?_eq_some_iff.mp hq).1
          rw [List.length_tail] at this e
          simp at this
          omega
        subst e2
        rw [List.length_tail, c] at hq
        cases hq
        exact ⟨sl_put_at, hw⟩
theorem s_takeBack0 {M : mm_Mem} {k : Nat} (h : acts M []) : mm_S 3 mX0_takeBack 0 0 [.ref 26, .ref k] M (mm_Eq (some (.int (-1))) M) := by
  obtain ⟨a, C, h1, h2, h3, h4, h5, h6⟩ := h
  exact mm_S.of rfl rfl (Nat.le_of_ble_eq_true rfl) mm_ndi (bX0_takeBack_0 h1 h2 (by decide) (fun c => absurd rfl c) (fun _ => ⟨rfl, rfl⟩))
theorem s_takeBack {M : mm_Mem} {k n : Nat} {T : Nat → Nat} {L : g_nets} {q : Nat × (Nat → Nat)} (h : acts M (L ++ [q])) (o : na M k n T) (hw : gw n T) (hk : k + 1 < 26) : mm_S 3 mX0_takeBack 0 0 [.ref 26, .ref k] M (fun r M' => r = some (.int (nI L.length)) ∧ acts M' L ∧ na M' k q.1 q.2 ∧ gw q.1 q.2 ∧ ∀ j, j ≠ 26 → j ≠ k → j ≠ k + 1 → M' j = M j) := by
  obtain ⟨a, C, h1, h2, h3, h4, h5, h6⟩ := h
  rw [List.length_append, List.length_singleton] at h1 h5
  obtain ⟨l1, l2⟩ := h6 L.length q (by rw [List.getElem?_append_right (Nat.le_refl _), Nat.sub_self]; rfl)
  refine mm_S.of rfl rfl (Nat.le_of_ble_eq_true rfl) (fun r M' h x e => by rw [h.1] at e; cases e) (bX0_takeBack_0 h1 h2 (by decide) (fun c => ?_) (fun c => ?_))
  · rw [nI_pred, nI_add, ks_rem8 (by omega)]
    refine mm_Call.eq (s_load (h2.n (by decide)) (h3.n (by decide)) ⟨o.1.n (by omega), o.2.n (by omega)⟩ hw l1 l2 (by omega) (by omega) (by omega) (by omega) (by omega)) (by decide) ?_
    have e26 : mm_at (mm_net (mm_up M 26 (mm_aO 0 [.ref 27, .int (nI a), .int (nI L.length)])) k q.1 q.2) 26 (mm_aO 0 [.ref 27, .int (nI a), .int (nI L.length)]) := ⟨h1.1, (mm_net_n (by omega) (by omega)).trans mm_up_s⟩
    refine bX0_takeBack_39 e26 ⟨rfl, ⟨a, C, e26, ⟨h2.1, ?_⟩, ⟨h3.1, ?_⟩, h4, by omega, fun j x hx => h6 j x ?_⟩, mm_net_na o.k, l2, fun j j1 j2 j3 => by rw [mm_net_n j2 j3, mm_up_n j1]⟩
    · rw [mm_net_n (by omega) (by omega), mm_up_n (by decide), h2.2]
    · rw [mm_net_n (by omega) (by omega), mm_up_n (by decide), h3.2]
    · rw [List.getElem?_append_left (List.getElem?_eq_some_iff.mp hx).1, hx]
  · rw [ks_eq0 (by omega)] at c
    omega
theorem s_forget {M : mm_Mem} {L : g_nets} (h : acts M L) : mm_S 0 mX0_forget 0 0 [.ref 26] M (fun r M' => r = none ∧ acts M' [] ∧ ∀ j, j ≠ 26 → M' j = M j) := by
  obtain ⟨a, C, h1, h2, h3, h4, h5, h6⟩ := h
  refine mm_S.mono (sX0_forget h1) ?_
  rintro r M' ⟨rfl, rfl⟩
  exact ⟨rfl, ⟨a, C, mm_at.s h1.1, h2.n (by decide), h3.n (by decide), h4, by decide, fun j q h => by simp at h⟩, fun j hj => mm_up_n hj⟩
/-! THE MODEL'S OBJECT -/
def mo_refs : List (Nat × Nat) := [(1, 32), (10, 33), (11, 34), (12, 35), (13, 36), (14, 37), (15, 38), (16, 39), (17, 40), (18, 41), (19, 42), (20, 43), (22, 44), (23, 45), (24, 46), (25, 47), (29, 48), (30, 49), (32, 50), (35, 51), (36, 52), (37, 53)]
def mo_ints : List Nat := [0, 2, 3, 4, 5, 6, 7, 8, 21, 26, 27, 28, 31, 33, 34, 38]
def mo (M : mm_Mem) (F : Nat → Int32) (w : Int64) : Prop := (∀ q ∈ mo_refs, mm_fd M 31 10 q.1 (.ref q.2)) ∧ (∀ k ∈ mo_ints, mm_fd M 31 10 k (.int (F k))) ∧ mm_fd M 31 10 9 (.long w)
theorem mo.r {M : mm_Mem} {F : Nat → Int32} {w : Int64} (h : mo M F w) (k a : Nat) (hk : (k, a) ∈ mo_refs) : mm_fd M 31 10 k (.ref a) := h.1 (k, a) hk
theorem mo.i {M : mm_Mem} {F : Nat → Int32} {w : Int64} (h : mo M F w) (k : Nat) (hk : k ∈ mo_ints) : mm_fd M 31 10 k (.int (F k)) := h.2.1 k hk
theorem mo.set {M : mm_Mem} {F : Nat → Int32} {w : Int64} (h : mo M F w) (k : Nat) (x : Int32) (hk : k ∈ mo_ints) : mo (mm_upF M 31 k (.int x)) (upd F k x) w := by
  have h9 : k ≠ 9 := fun e => by subst e; revert hk; decide
  refine ⟨fun q hq => (h.1 q hq).n (fun e => ?_), fun j hj => ?_, h.2.2.n h9⟩
  · revert hq hk
    rw [e]
    obtain ⟨a, b⟩ := q
    intro hk hq
    have : (mo_refs.all fun q => decide (q.1 ∉ mo_ints)) = true := by decide
    have := List.all_eq_true.mp this (a, b) hq
    exact absurd hk (of_decide_eq_true this)
  · by_cases e : j = k
    · subst e
      rw [pk_us]
      exact (h.2.1 j hj).s
    · rw [pk_un e]
      exact (h.2.1 j hj).n (Ne.symm e)
theorem mo.setL {M : mm_Mem} {F : Nat → Int32} {w : Int64} (h : mo M F w) (x : Int64) : mo (mm_upF M 31 9 (.long x)) F x := by
  refine ⟨fun q hq => (h.1 q hq).n (fun e => ?_), fun j hj => (h.2.1 j hj).n (fun e => ?_), h.2.2.s⟩
  · have : (mo_refs.all fun q => decide (q.1 ≠ 9)) = true := by decide
    exact of_decide_eq_true (List.all_eq_true.mp this q hq) e.symm
  · subst e
    revert hj
    decide
theorem mo.up {M : mm_Mem} {F : Nat → Int32} {w : Int64} (h : mo M F w) {a : Nat} {c : mm_AC} (ha : 31 ≠ a) : mo (mm_up M a c) F w := ⟨fun q hq => (h.1 q hq).o ha, fun j hj => (h.2.1 j hj).o ha, h.2.2.o ha⟩
theorem mo.eq {M M' : mm_Mem} {F : Nat → Int32} {w : Int64} (h : mo M F w) (e : M' 31 = M 31) : mo M' F w := by
  have k : ∀ {k : Nat} {v : Value}, mm_fd M 31 10 k v → mm_fd M' 31 10 k v := fun ⟨h1, fs, h2, h3⟩ => ⟨h1, fs, e.trans h2, h3⟩
  exact ⟨fun q hq => k (h.1 q hq), fun j hj => k (h.2.1 j hj), k h.2.2⟩
