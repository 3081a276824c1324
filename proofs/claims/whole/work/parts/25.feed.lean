/-! feed, end, fault -/
def g_w20 (f : Nat → Int32) (t : Nat) (a b c d e : Int32) : Nat → Int32 := g_w4 (g_w4 (g_w4 (g_w4 (g_w4 f t a) (t + 4) b) (t + 4 + 4) c) (t + 4 + 4 + 4) d) (t + 4 + 4 + 4 + 4) e
theorem g_tp_tp {M : mm_Mem} {t t' : Nat} {f f' : Nat → Int32} : g_tp (g_tp M t f) t' f' = g_tp M t' f' := g_tp_step
theorem ks_20 {t : Nat} (ht : t ≤ 740) : nI t + 20 ≤ (740 : Int32) ↔ t + 20 ≤ 740 := by
  rw [show (20 : Int32) = nI 20 from rfl, show (740 : Int32) = nI 740 from rfl, nI_add, ks_le (by omega) (by decide)]
theorem s_feedC {M : mm_Mem} {pf fk sd : Int32} {t : Nat} {f : Nat → Int32} {a b c d e : Int32} (h : co M pf fk sd) (o : ct M t f) : mm_S 2 mX9_feed 0 0 [.ref 0, .int a, .int b, .int c, .int d, .int e] M (fun r M' => (t + 20 ≤ 740 ∧ r = some (.int (nI (t + 20))) ∧ M' = g_tp M (t + 20) (g_w20 f t a b c d e)) ∨ (¬ t + 20 ≤ 740 ∧ r = some (.int (-1)) ∧ M' = M)) := by
  have ht := o.2.2
  have hr := h.r 2 5 (by decide)
  have co' : ∀ t f, mm_fd (g_tp M t f) 0 9 2 (.ref 5) := fun t f => hr.eq (g_tp_n (by decide) (by decide))
  refine mm_S.of rfl rfl (Nat.le_of_ble_eq_true rfl) (fun r M' h x e => by rcases h with h | h <;> (rw [h.2.1] at e; cases e)) (bX9_feed_0 o.1 hr (by decide) (fun c1 => ?_) (fun c1 => ?_))
  · rw [ks_20 ht] at c1
    have q : ∀ (t : Nat) (f : Nat → Int32), t ≤ 740 → ct (g_tp M t f) t f := fun t f h => g_tp_ct h
    refine mm_Call.eq (s_addFour o (by omega)) (by decide) (bX9_feed_26 (q _ _ (by omega)).1 (co' _ _) (mm_Call.eq (s_addFour (q _ _ (by omega)) (by omega)) (by decide) ?_))
    rw [g_tp_tp]
    refine bX9_feed_34 (q _ _ (by omega)).1 (co' _ _) (mm_Call.eq (s_addFour (q _ _ (by omega)) (by omega)) (by decide) ?_)
    rw [g_tp_tp]
    refine bX9_feed_42 (q _ _ (by omega)).1 (co' _ _) (mm_Call.eq (s_addFour (q _ _ (by omega)) (by omega)) (by decide) ?_)
    rw [g_tp_tp]
    refine bX9_feed_51 (q _ _ (by omega)).1 (co' _ _) (mm_Call.eq (s_addFour (q _ _ (by omega)) (by omega)) (by decide) ?_)
    rw [g_tp_tp]
    exact bX9_feed_60 (q _ _ (by omega)).1 (co' _ _) (by decide) (Or.inl ⟨c1, rfl, rfl⟩)
  · rw [ks_20 ht] at c1
    exact Or.inr ⟨c1, rfl, rfl⟩
/-- the model's state but its nets: tape, fault, what is kept -/
theorem s_feedM {M : mm_Mem} {F : Nat → Int32} {w : Int64} {t : Nat} {f : Nat → Int32} {a b c d e : Int32} (h : mo M F w) (h2 : F 2 = nI t) (o : mt M f) (ht : t ≤ 740) : mm_S 1 mX10_feed 0 0 [.ref 31, .int a, .int b, .int c, .int d, .int e] M (fun r M' => (t + 20 ≤ 740 ∧ r = some (.int (nI (t + 20))) ∧ mo M' (upd (upd F 0 0) 2 (nI (t + 20))) w ∧ mt M' (g_w20 f t a b c d e) ∧ ∀ j, j ≠ 31 → j ≠ 32 → M' j = M j) ∨ (¬ t + 20 ≤ 740 ∧ r = some (.int (-1)) ∧ mo M' (upd F 0 0) w ∧ ∀ j, j ≠ 31 → M' j = M j)) := by
  have uu : ∀ (F : Nat → Int32) (a b : Int32), upd (upd F 2 a) 2 b = upd F 2 b := fun F a b => by
    funext i
    unfold upd
    by_cases e : i = 2 <;> simp [e]
  have f2 := h.i 2 (by decide)
  rw [h2] at f2
  have h0 := h.set 0 0 (by decide)
  have g2 : upd F 0 0 2 = nI t := by rw [pk_un (by decide), h2]
  have o0 : mt (mm_upF M 31 0 (.int 0)) f := o.nF (by decide)
  refine mm_S.of rfl rfl (Nat.le_of_ble_eq_true rfl) (fun r M' h x e => by rcases h with h | h <;> (rw [h.2.1] at e; cases e)) (bX10_feed_0 (h.i 0 (by decide)) f2 (fun c1 => ?_) (fun c1 => ?_))
  · rw [ks_20 ht] at c1
    refine mm_Call.of (s_feedOne h0 g2 o0 (by omega)) (by decide) ?_
    rintro _ M1 ⟨rfl, a1, b1, c1'⟩
    refine bX10_feed_25 (a1.i 2 (by decide)).rc (mm_Call.of (s_feedOne a1 pk_us b1 (by omega)) (by decide) ?_)
    rintro _ M2 ⟨rfl, a2, b2, c2⟩
    rw [uu] at a2
    refine bX10_feed_30 (a2.i 2 (by decide)).rc (mm_Call.of (s_feedOne a2 pk_us b2 (by omega)) (by decide) ?_)
    rintro _ M3 ⟨rfl, a3, b3, c3⟩
    rw [uu] at a3
    refine bX10_feed_35 (a3.i 2 (by decide)).rc (mm_Call.of (s_feedOne a3 pk_us b3 (by omega)) (by decide) ?_)
    rintro _ M4 ⟨rfl, a4, b4, c4⟩
    rw [uu] at a4
    refine bX10_feed_41 (a4.i 2 (by decide)).rc (mm_Call.of (s_feedOne a4 pk_us b4 (by omega)) (by decide) ?_)
    rintro _ M5 ⟨rfl, a5, b5, c5⟩
    rw [uu] at a5
    exact bX10_feed_47 (a5.i 2 (by decide)) (Or.inl ⟨c1, by rw [pk_us], a5, b5, fun j j1 j2 => by rw [c5 j j1 j2, c4 j j1 j2, c3 j j1 j2, c2 j j1 j2, c1' j j1 j2, mm_upF_n j1]⟩)
  · rw [ks_20 ht] at c1
    exact Or.inr ⟨c1, rfl, h0, fun j hj => mm_upF_n hj⟩
/-- what end tells -/
def g_cut (t : Nat) (x : Int32) : Prop := ∃ n, n ≤ t ∧ x = nI n
theorem g_cut_iff {t : Nat} (ht : t ≤ 740) (x : Int32) : g_cut t x ↔ ¬ x < 0 ∧ x ≤ nI t := by
  constructor
  · rintro ⟨n, hn, rfl⟩
    exact ⟨nI_pos (by omega), (ks_le (by omega) (by omega)).mpr hn⟩
  · rintro ⟨h1, h2⟩
    obtain ⟨j, h3, h4⟩ := nI_of2 (M := nI t) (n := t) (nI_toInt (by omega)) h1 h2
    exact ⟨j, h3, h4⟩
theorem s_cut {M : mm_Mem} {t : Nat} {f : Nat → Int32} {x : Int32} (o : ct M t f) : mm_S 0 mX8_cut 0 0 [.ref 5, .int x] M (fun r M' => (∃ n, n ≤ t ∧ x = nI n ∧ r = some (.int 1) ∧ M' = g_tp M n f) ∨ (¬ g_cut t x ∧ r = some (.int 0) ∧ M' = M)) := by
  have ht := o.2.2
  refine mm_S.of rfl rfl (Nat.le_of_ble_eq_true rfl) (fun r M' h x e => by rcases h with ⟨n, h⟩ | h <;> (first | rw [h.2.2.1] at e | rw [h.2.1] at e) <;> cases e) (bX8_cut_0 o.1 (fun c => Or.inr ⟨fun h => ((g_cut_iff ht x).mp h).1 c, rfl, rfl⟩) (fun c c1 => ?_) (fun c c1 => Or.inr ⟨fun h => c1 ((g_cut_iff ht x).mp h).2, rfl, rfl⟩))
  obtain ⟨n, h1, rfl⟩ := (g_cut_iff ht x).mpr ⟨c, c1⟩
  refine Or.inl ⟨n, h1, rfl, rfl, ?_⟩
  unfold g_tp
  rw [mm_up_id o.2.1.2]
theorem s_endC {M : mm_Mem} {pf fk sd : Int32} {t : Nat} {f : Nat → Int32} {x : Int32} (h : co M pf fk sd) (o : ct M t f) : mm_S 1 mX9_end 0 0 [.ref 0, .int x] M (fun r M' => (∃ n, n ≤ t ∧ x = nI n ∧ r = some (.int 1) ∧ M' = g_tp M n f) ∨ (¬ g_cut t x ∧ r = some (.int 0) ∧ M' = M)) := by
  refine mm_S.of rfl rfl (Nat.le_of_ble_eq_true rfl) (fun r M' h x e => by rcases h with ⟨n, h⟩ | h <;> (first | rw [h.2.2.1] at e | rw [h.2.1] at e) <;> cases e) (bX9_end_0 o.1 (h.r 2 5 (by decide)) (mm_Call.of (s_cut o) (by decide) ?_))
  rintro r M' (⟨n, h1, h2, rfl, h4⟩ | ⟨h1, rfl, h3⟩)
  · exact bX9_end_8 rfl (Or.inl ⟨n, h1, h2, rfl, h4⟩)
  · exact bX9_end_8 rfl (Or.inr ⟨h1, rfl, h3⟩)
theorem s_endM {M : mm_Mem} {F : Nat → Int32} {w : Int64} {t : Nat} {x : Int32} (h : mo M F w) (h2 : F 2 = nI t) (ht : t ≤ 740) : mm_S 0 mX10_end 0 0 [.ref 31, .int x] M (fun r M' => ((∃ n, n ≤ t ∧ x = nI n ∧ r = some (.int 1) ∧ mo M' (upd (upd F 0 0) 2 (nI n)) w) ∨ (¬ g_cut t x ∧ r = some (.int 0) ∧ mo M' (upd F 0 0) w)) ∧ ∀ j, j ≠ 31 → M' j = M j) := by
  have f2 := h.i 2 (by decide)
  rw [h2] at f2
  have h0 := h.set 0 0 (by decide)
  refine mm_S.of rfl rfl (Nat.le_of_ble_eq_true rfl) (fun r M' h x e => by rcases h.1 with ⟨n, h⟩ | h <;> (first | rw [h.2.2.1] at e | rw [h.2.1] at e) <;> cases e) (bX10_end_0 (h.i 0 (by decide)) f2 (fun c => ⟨Or.inr ⟨fun h => ((g_cut_iff ht x).mp h).1 c, rfl, h0⟩, fun j hj => mm_upF_n hj⟩) (fun c c1 => ?_) (fun c c1 => ⟨Or.inr ⟨fun h => c1 ((g_cut_iff ht x).mp h).2, rfl, h0⟩, fun j hj => mm_upF_n hj⟩))
  obtain ⟨n, h1, rfl⟩ := (g_cut_iff ht x).mpr ⟨c, c1⟩
  exact ⟨Or.inl ⟨n, h1, rfl, rfl, h0.set 2 _ (by decide)⟩, fun j hj => by rw [mm_upF_n hj, mm_upF_n hj]⟩
