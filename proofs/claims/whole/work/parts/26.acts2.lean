/-! THE CLASS: tie, part, come, go, undo -/
def g_two (n : Nat) (x y : Int32) : Prop := ∃ a b, a < n ∧ b < n ∧ a ≠ b ∧ x = nI a ∧ y = nI b
theorem q_pair {n : Nat} (hn : n ≤ 14) (x y : Int32) : qX3_holdsPair x y (nI n) = ks_b (g_two n x y) := by
  unfold qX3_holdsPair
  rw [q_holds hn, q_holds hn]
  by_cases h1 : ∃ p, p < n ∧ x = nI p
  · obtain ⟨a, ha, rfl⟩ := h1
    rw [if_neg (by rw [ks_b0, Classical.not_not]; exact ⟨a, ha, rfl⟩)]
    by_cases h2 : ∃ p, p < n ∧ y = nI p
    · obtain ⟨b, hb, rfl⟩ := h2
      rw [if_neg (by rw [ks_b0, Classical.not_not]; exact ⟨b, hb, rfl⟩)]
      by_cases h3 : a = b
      · rw [if_pos (by rw [h3]), ks_bf]
        rintro ⟨c, d, hc, hd, hcd, e1, e2⟩
        rw [ks_eqI (by omega) (by omega)] at e1 e2
        omega
      · rw [if_neg (by rw [ks_eqI (by omega) (by omega)]; exact h3), ks_bt ⟨a, b, ha, hb, h3, rfl, rfl⟩]
    · rw [if_pos (ks_b0.mpr h2), ks_bf]
      rintro ⟨c, d, hc, hd, hcd, e1, e2⟩
      exact h2 ⟨d, hd, e2⟩
  · rw [if_pos (ks_b0.mpr h1), ks_bf]
    rintro ⟨c, d, hc, hd, hcd, e1, e2⟩
    exact h1 ⟨c, hc, e1⟩
/-- nothing but the net and what is kept for undo has changed -/
def f_act (M M' : mm_Mem) : Prop := ∀ j, j ≠ 1 → j ≠ 2 → j ≠ 26 → j ≠ 28 → M' j = M j
theorem s_changeC {M : mm_Mem} {pf fk sd x y tb : Int32} {n : Nat} {T : Nat → Nat} {L : g_nets} (h : co M pf fk sd) (o : na M 1 n T) (hw : gw n T) (ha : acts M L) : mm_S 4 mX9_change 0 0 [.ref 0, .int x, .int y, .int tb] M (fun r M' => (∃ a b, a < n ∧ b < n ∧ a ≠ b ∧ x = nI a ∧ y = nI b ∧ ks_b ((T a).testBit b = true) = tb ∧ r = some (.int 0) ∧ acts M' (g_kp L (n, T)) ∧ na M' 1 n (g_flip T a b) ∧ f_act M M') ∨ (∃ a b, a < n ∧ b < n ∧ a ≠ b ∧ x = nI a ∧ y = nI b ∧ ks_b ((T a).testBit b = true) ≠ tb ∧ r = some (.int 1) ∧ M' = M) ∨ (¬ g_two n x y ∧ r = some (.int (-1)) ∧ M' = M)) := by
  have hn := hw.1
  obtain ⟨oo, C, ac1⟩ := id ha
  refine mm_S.of rfl rfl (Nat.le_of_ble_eq_true rfl) (fun r M' h x e => by rcases h with ⟨a, b, h⟩ | ⟨a, b, h⟩ | h <;> (first | rw [h.2.2.2.2.2.2.1] at e | rw [h.2.1] at e) <;> cases e) (bX9_change_0 o.1 o.2 ac1.1 (h.r 0 1 (by decide)) (h.r 8 26 (by decide)) (by decide) (fun c c1 => ?_) (fun c c1 => ?_) (fun c => ?_))
  · rw [q_pair hn, ks_b0, Classical.not_not] at c
    obtain ⟨a, b, h1, h2, h3, rfl, rfl⟩ := c
    have hTa := gw_ok hw a
    rw [ks_at (by decide) (by omega), ks_has (by omega) (by omega)] at c1
    refine mm_Call.of (s_keep ha o hw (by decide)) (by decide) ?_
    rintro _ M1 ⟨rfl, k1, k2⟩
    have o1 : na M1 1 n T := o.eq (k2 1 (by decide) (by decide)) (k2 2 (by decide) (by decide))
    refine bX9_change_40 o1.1 o1.2 ((h.r 0 1 (by decide)).eq (k2 0 (by decide) (by decide))) (by decide) (by decide) ?_
    rw [g_flip_f (by omega) (by omega) h3]
    refine Or.inl ⟨a, b, h1, h2, h3, rfl, rfl, c1, rfl, k1.eq (fun j j1 j2 => mm_up_n (by omega)), ⟨o1.1.n (by decide), mm_at.s o1.2.1⟩, fun j j1 j2 j3 j4 => by rw [mm_up_n j2, k2 j j3 j4]⟩
  · rw [q_pair hn, ks_b0, Classical.not_not] at c
    obtain ⟨a, b, h1, h2, h3, rfl, rfl⟩ := c
    have hTa := gw_ok hw a
    rw [ks_at (by decide) (by omega), ks_has (by omega) (by omega)] at c1
    exact Or.inr (Or.inl ⟨a, b, h1, h2, h3, rfl, rfl, c1, rfl, rfl⟩)
  · rw [q_pair hn, ks_b0] at c
    exact Or.inr (Or.inr ⟨c, rfl, rfl⟩)
theorem s_comeC {M : mm_Mem} {pf fk sd x : Int32} {n : Nat} {T : Nat → Nat} {L : g_nets} (h : co M pf fk sd) (o : na M 1 n T) (hw : gw n T) (ha : acts M L) : mm_S 4 mX9_come 0 0 [.ref 0, .int x] M (fun r M' => (∃ S, n < 14 ∧ S < 2 ^ n ∧ x = nI S ∧ r = some (.int (nI n)) ∧ acts M' (g_kp L (n, T)) ∧ na M' 1 (n + 1) (g_add n T S) ∧ f_act M M') ∨ (¬ (n < 14 ∧ g_set n x) ∧ r = some (.int (-1)) ∧ M' = M)) := by
  have hn := hw.1
  obtain ⟨oo, C, ac1⟩ := id ha
  refine mm_S.of rfl rfl (Nat.le_of_ble_eq_true rfl) (fun r M' h x e => by rcases h with ⟨S, h⟩ | h <;> (first | rw [h.2.2.2.1] at e | rw [h.2.1] at e) <;> cases e) (bX9_come_0 o.1 ac1.1 (h.r 0 1 (by decide)) (h.r 8 26 (by decide)) (by decide) (fun c => ?_) (fun c => ?_))
  · rw [q_mayAdd hn, ks_b0, Classical.not_not] at c
    obtain ⟨h1, S, hS, rfl⟩ := c
    refine mm_Call.of (s_keep ha o hw (by decide)) (by decide) ?_
    rintro _ M1 ⟨rfl, k1, k2⟩
    have o1 : na M1 1 n T := o.eq (k2 1 (by decide) (by decide)) (k2 2 (by decide) (by decide))
    have f1 := (h.r 0 1 (by decide)).eq (k2 0 (by decide) (by decide))
    refine bX9_come_24 o1.1 f1 (mm_Call.eq (s_add o1 hw h1 hS) (by decide) ?_)
    have q := mm_net_na (M := M1) (k := 1) (n := n + 1) (T := g_add n T S) (by decide)
    refine bX9_come_32 q.1 (f1.eq (mm_net_n (by decide) (by decide))) (by decide) ?_
    rw [nI_pred]
    exact Or.inl ⟨S, h1, hS, rfl, rfl, k1.eq (fun j j1 j2 => mm_net_n (by omega) (by omega)), q, fun j j1 j2 j3 j4 => by rw [mm_net_n j1 j2, k2 j j3 j4]⟩
  · rw [q_mayAdd hn, ks_b0] at c
    exact Or.inr ⟨c, rfl, rfl⟩
theorem s_goC {M : mm_Mem} {pf fk sd x : Int32} {n : Nat} {T : Nat → Nat} {L : g_nets} (h : co M pf fk sd) (o : na M 1 n T) (hw : gw n T) (ha : acts M L) : mm_S 4 mX9_go 0 0 [.ref 0, .int x] M (fun r M' => (∃ m p, n = m + 1 ∧ p ≤ m ∧ x = nI p ∧ r = some (.int (nI m)) ∧ acts M' (g_kp L (n, T)) ∧ na M' 1 m (g_drop m T p) ∧ f_act M M') ∨ (¬ (∃ p, p < n ∧ x = nI p) ∧ r = some (.int (-1)) ∧ M' = M)) := by
  have hn := hw.1
  obtain ⟨oo, C, ac1⟩ := id ha
  refine mm_S.of rfl rfl (Nat.le_of_ble_eq_true rfl) (fun r M' h x e => by rcases h with ⟨m, p, h⟩ | h <;> (first | rw [h.2.2.2.1] at e | rw [h.2.1] at e) <;> cases e) (bX9_go_0 o.1 ac1.1 (h.r 0 1 (by decide)) (h.r 8 26 (by decide)) (by decide) (fun c => ?_) (fun c => ?_))
  · rw [q_holds hn, ks_b0, Classical.not_not] at c
    obtain ⟨p, hp, rfl⟩ := c
    obtain ⟨m, rfl⟩ : ∃ m, n = m + 1 := ⟨n - 1, by omega⟩
    refine mm_Call.of (s_keep ha o hw (by decide)) (by decide) ?_
    rintro _ M1 ⟨rfl, k1, k2⟩
    have o1 : na M1 1 (m + 1) T := o.eq (k2 1 (by decide) (by decide)) (k2 2 (by decide) (by decide))
    have f1 := (h.r 0 1 (by decide)).eq (k2 0 (by decide) (by decide))
    refine bX9_go_24 o1.1 f1 (mm_Call.eq (s_drop o1 hw (by omega)) (by decide) ?_)
    have q := mm_net_na (M := M1) (k := 1) (n := m) (T := g_drop m T p) (by decide)
    exact bX9_go_32 q.1 (f1.eq (mm_net_n (by decide) (by decide))) (by decide) (Or.inl ⟨m, p, rfl, by omega, rfl, rfl, k1.eq (fun j j1 j2 => mm_net_n (by omega) (by omega)), q, fun j j1 j2 j3 j4 => by rw [mm_net_n j1 j2, k2 j j3 j4]⟩)
  · rw [q_holds hn, ks_b0] at c
    exact Or.inr ⟨c, rfl, rfl⟩
