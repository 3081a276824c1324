/-! ACTS THAT CAN BE UNDONE: the model's rows -/
def sn (C : Nat → Int32) (L : g_nets) : Prop := L.length ≤ 8 ∧ ∀ (j : Nat) (q : Nat × (Nat → Nat)), L[j]? = some q → sl_at C (15 * j) q.1 q.2 ∧ gw q.1 q.2
/-- the model's object, its net and what it keeps for undo -/
def ms (M : mm_Mem) (F : Nat → Int32) (w : Int64) (L : g_nets) : Prop := mo M F w ∧ F 21 = nI L.length ∧ ∃ C, mm_at M 36 (mm_aI 120 C) ∧ sn C L
theorem gk_at0 {n : Nat} {T : Nat → Nat} : sl_at (gk_f n T) 0 n T := fun p _ => by rw [Nat.zero_add]
theorem s_snap {M : mm_Mem} {F : Nat → Int32} {w : Int64} {L : g_nets} {n : Nat} {T : Nat → Nat} (h : ms M F w L) (o : ra M 33 n T) (hw : gw n T) : mm_S 1 mX10_snap 0 0 [.ref 31] M (fun r M' => r = none ∧ (∃ x, ms M' (upd F 21 x) w (g_kp L (n, T))) ∧ ∀ j, j ≠ 31 → j ≠ 36 → M' j = M j) := by
  obtain ⟨hm, h21, C, oc, hl, hs⟩ := h
  have f21 := hm.i 21 (by decide)
  have f10 := hm.r 10 33 (by decide)
  have f13 := hm.r 13 36 (by decide)
  rw [h21] at f21
  refine mm_S.of rfl rfl (Nat.le_of_ble_eq_true rfl) (fun r M' h x e => by rw [h.1] at e; cases e) (bX10_snap_0 f21 f10 f13 (fun c => ?_) (fun c => ?_))
  · rw [show (8 : Int32) = nI 8 from rfl, ks_eqI (by omega) (by decide)] at c
    rw [ks_15, pk_mul]
    refine mm_Call.eq (s_copyM o oc (by decide) gk_at0 (by decide) (by omega) (by decide) (by decide)) (by decide) ?_
    have hm2 := hm.up (a := 36) (c := mm_aI 120 (sl_put C (15 * L.length) n T)) (by decide)
    have f := hm2.i 21 (by decide)
    rw [h21] at f
    refine bX10_snap_67 f ⟨rfl, ⟨nI (L.length + 1), ?_, ?_, sl_put C (15 * L.length) n T, ⟨oc.1, by rw [mm_upF_n (by decide), mm_up_s]⟩, ?_, ?_⟩, fun j j1 j2 => by rw [mm_upF_n j1, mm_up_n j2]⟩
    · rw [nI_1]
      exact hm2.set 21 _ (by decide)
    · unfold g_kp
      rw [pk_us, if_neg c, List.length_append]
      rfl
    · unfold g_kp
      rw [if_neg c, List.length_append, List.length_singleton]
      omega
    · intro j q hq
      unfold g_kp at hq
      rw [if_neg c] at hq
      by_cases e : j < L.length
      · rw [List.getElem?_append_left e] at hq
        obtain ⟨g1, g2⟩ := hs j q hq
        exact ⟨sl_put_n g1 (by omega), g2⟩
      · rw [List.getElem?_append_right (by omega)] at hq
        have e2 : j = L.length := by
          have := (List.getElem?_eq_some_iff.mp hq).1
          simp at this
          omega
        subst e2
        rw [Nat.sub_self] at hq
        cases hq
        exact ⟨sl_put_at, hw⟩
  · rw [show (8 : Int32) = nI 8 from rfl, ks_eqI (by omega) (by decide)] at c
    rw [show mm_X mX10_snap 1 none (0, 0) 11 [.ref 31, .int 0] [] M = mm_X mX10_snap 1 none (0, 0) 11 [.ref 31, .int 0] [] (mm_up M 36 (mm_aI 120 C)) from by rw [mm_up_id oc.2]]
    refine fld (s := 0) (n := 105) (G := fun j D => mm_X mX10_snap 1 none (0, 0) 11 [.ref 31, .int (nI j)] [] (mm_up M 36 (mm_aI 120 D)) _) (I := fun j D => ∀ i, D i = if i < j then C (i + 15) else C i) (Nat.zero_le 105) (fun i => by rw [if_neg (by omega)]) ?_
    intro j D _ hj hI ih
    have hm2 := hm.up (a := 36) (c := mm_aI 120 D) (by decide)
    have f21' := hm2.i 21 (by decide)
    rw [h21, c] at f21'
    have od : mm_at (mm_up M 36 (mm_aI 120 D)) 36 (mm_aI 120 D) := mm_at.s oc.1
    have lt : ¬ (105 : Int32) ≤ nI j → j < 105 := by
      intro h
      rw [show (105 : Int32) = nI 105 from rfl, ks_le (by decide) (by omega)] at h
      omega
    refine bX10_snap_11 od f21' (hm2.r 10 33 (by decide)) (hm2.r 13 36 (by decide)) (fun c1 => ?_) (fun c1 => ?_) (fun c1 => ?_) (fun c1 => ?_)
    · rw [show (105 : Int32) = nI 105 from rfl, ks_le (by decide) (by omega)] at c1
      obtain rfl : j = 105 := by omega
      rw [show nI 8 - 1 = nI 7 from rfl, ks_15, pk_mul]
      have od2 : mm_at (mm_upF (mm_up M 36 (mm_aI 120 D)) 31 21 (.int (nI 7))) 36 (mm_aI 120 D) := od.nF (by decide)
      have o2 : mm_at (mm_upF (mm_up M 36 (mm_aI 120 D)) 31 21 (.int (nI 7))) 33 (mm_aI 15 (gk_f n T)) := (o.n (by decide)).nF (by decide)
      refine mm_Call.eq (s_copyM o2 od2 (by decide) gk_at0 (by decide) (by decide) (by decide) (by decide)) (by decide) ?_
      have hm3 := (hm2.set 21 (nI 7) (by decide)).up (a := 36) (c := mm_aI 120 (sl_put D (15 * 7) n T)) (by decide)
      have f := hm3.i 21 (by decide)
      rw [pk_us] at f
      refine bX10_snap_67 f ⟨rfl, ⟨nI 8, ?_, ?_, sl_put D (15 * 7) n T, ⟨oc.1, by rw [mm_upF_n (by decide), mm_up_s]⟩, ?_, ?_⟩, fun j j1 j2 => by rw [mm_upF_n j1, mm_up_n j2, mm_upF_n j1, mm_up_n j2]⟩
      · have g := hm3.set 21 (nI 7 + 1) (by decide)
        have e : upd (upd F 21 (nI 7)) 21 (nI 7 + 1) = upd F 21 (nI 8) := by
          funext x
          unfold upd
          by_cases e : x = 21
          · rw [if_pos e, if_pos e]; rfl
          · rw [if_neg e, if_neg e, if_neg e]
        rw [e] at g
        exact g
      · unfold g_kp
        rw [pk_us, if_pos c, List.length_append, List.length_tail, c]
        rfl
      · unfold g_kp
        rw [if_pos c, List.length_append, List.length_tail, c]
        exact Nat.le_of_ble_eq_true rfl
      · intro j q hq
        unfold g_kp at hq
        rw [if_pos c] at hq
        by_cases e : j < L.tail.length
        · rw [List.getElem?_append_left e, List.getElem?_tail] at hq
          rw [List.length_tail] at e
          obtain ⟨g1, g2⟩ := hs (j + 1) q hq
          refine ⟨sl_put_n (fun p hp => ?_) (by omega), g2⟩
          rw [hI, if_pos (by omega), ← g1 p hp, show 15 * j + p + 15 = 15 * (j + 1) + p by omega]
        · rw [List.getElem?_append_right (by omega)] at hq
          have e2 : j = 7 := by
            have := (List.getElem?_eq_some_iff.mp hq).1
            rw [List.length_tail] at this e
            simp at this
            omega
          subst e2
          rw [List.length_tail, c] at hq
          cases hq
          exact ⟨sl_put_at, hw⟩
    · have := lt c1
      rw [ks_15, nI_add]
      exact vp_in_nI (by omega) (by decide)
    · have := lt c1
      exact vp_in_nI (by omega) (by decide)
    · have := lt c1
      rw [ks_15, nI_add, nI_clamp (by omega), nI_clamp (by omega), mm_up_up, nI_1]
      refine ih _ this (fun i => ?_)
      unfold upd
      by_cases e : i = j
      · subst e
        rw [if_pos rfl, hI, if_neg (by omega), if_pos (by omega)]
      · rw [if_neg e, hI i]
        by_cases e2 : i < j
        · rw [if_pos e2, if_pos (by omega)]
        · rw [if_neg e2, if_neg (by omega)]
