/-! THE TAPE: four bytes of a number, the highest first -/
def g_byte (w : Int32) (s : Nat) : Int32 := mm_ushr w (nI s) &&& 255
def g_w4 (f : Nat → Int32) (t : Nat) (w : Int32) : Nat → Int32 := upd (upd (upd (upd f t (g_byte w 24)) (t + 1) (g_byte w 16)) (t + 1 + 1) (g_byte w 8)) (t + 1 + 1 + 1) (g_byte w 0)
def g_tp (M : mm_Mem) (t : Nat) (f : Nat → Int32) : mm_Mem := mm_up (mm_up M 6 (mm_aI 740 f)) 5 (mm_aO 8 [.int (nI t), .ref 6])
theorem g_tp_step {M : mm_Mem} {t t' : Nat} {f f' : Nat → Int32} : mm_up (mm_up (g_tp M t f) 6 (mm_aI 740 f')) 5 (mm_aO 8 [.int (nI t'), .ref 6]) = g_tp M t' f' := by
  unfold g_tp
  rw [mm_up_comm (k := 5) (j := 6) (by decide), mm_up_up, mm_up_up]
theorem g_tp_id {M : mm_Mem} {t : Nat} {f : Nat → Int32} (h : ct M t f) : g_tp M t f = M := by
  unfold g_tp
  rw [mm_up_id h.2.1.2, mm_up_id h.1.2]
theorem g_tp_ct {M : mm_Mem} {t : Nat} {f : Nat → Int32} (ht : t ≤ 740) : ct (g_tp M t f) t f := ⟨⟨by decide, mm_up_s⟩, ⟨by decide, (mm_up_n (by decide)).trans mm_up_s⟩, ht⟩
theorem g_tp_n {M : mm_Mem} {t j : Nat} {f : Nat → Int32} (h : j ≠ 5) (h' : j ≠ 6) : g_tp M t f j = M j := by
  unfold g_tp
  rw [mm_up_n h, mm_up_n h']
theorem s_addFour {M : mm_Mem} {t : Nat} {f : Nat → Int32} {w : Int32} (h : ct M t f) (ht : t + 4 ≤ 740) : mm_S 1 mX8_addFour 0 0 [.ref 5, .int w] M (mm_Eq none (g_tp M (t + 4) (g_w4 f t w))) := by
  have step : ∀ (t s : Nat) (f : Nat → Int32) {Q : Option Value → mm_Mem → Prop}, s < 31 → t < 740 → mm_X mX8_addFour 1 none (0, 0) 3 [.ref 5, .int w, .int (nI s + (-8))] [] (g_tp M (t + 1) (upd f t (g_byte w s))) Q → mm_X mX8_addFour 1 none (0, 0) 3 [.ref 5, .int w, .int (nI s)] [] (g_tp M t f) Q := by
    intro t s f Q hs ht k
    have q := g_tp_ct (M := M) (f := f) (t := t) (by omega)
    refine bX8_addFour_3 q.1 q.2.1 (by decide) (by decide) (fun c => absurd c (nI_pos (by omega))) (fun _ => ?_)
    rw [ks_put (by decide) ht, nI_1, g_tp_step]
    exact k
  refine mm_S.of rfl rfl (Nat.le_of_ble_eq_true rfl) mm_ndn (bX8_addFour_0 ?_)
  rw [show mm_X mX8_addFour 1 none (0, 0) 3 [.ref 5, .int w, .int 24] [] M = mm_X mX8_addFour 1 none (0, 0) 3 [.ref 5, .int w, .int (nI 24)] [] (g_tp M t f) from by rw [g_tp_id h]; rfl]
  refine step t 24 f (by decide) (by omega) ?_
  rw [show nI 24 + (-8) = nI 16 from by decide]
  refine step (t + 1) 16 _ (by decide) (by omega) ?_
  rw [show nI 16 + (-8) = nI 8 from by decide]
  refine step (t + 1 + 1) 8 _ (by decide) (by omega) ?_
  rw [show nI 8 + (-8) = nI 0 from by decide]
  refine step (t + 1 + 1 + 1) 0 _ (by decide) (by omega) ?_
  have q := g_tp_ct (M := M) (f := g_w4 f t w) (t := t + 1 + 1 + 1 + 1) (by omega)
  exact bX8_addFour_3 q.1 q.2.1 (by decide) (by decide) (fun _ => ⟨rfl, rfl⟩) (fun c => absurd (by decide) c)
/-- the model's tape -/
def mt (M : mm_Mem) (f : Nat → Int32) : Prop := mm_at M 32 (mm_aI 740 f)
theorem s_feedOne {M : mm_Mem} {F : Nat → Int32} {w : Int64} {t : Nat} {f : Nat → Int32} {x : Int32} (h : mo M F w) (h2 : F 2 = nI t) (o : mt M f) (ht : t + 4 ≤ 740) : mm_S 0 mX10_feedOne 0 0 [.ref 31, .int x] M (fun r M' => r = none ∧ mo M' (upd F 2 (nI (t + 4))) w ∧ mt M' (g_w4 f t x) ∧ ∀ j, j ≠ 31 → j ≠ 32 → M' j = M j) := by
  have step : ∀ (t s : Nat) (f F : Nat → Int32) (M : mm_Mem) {Q : Option Value → mm_Mem → Prop}, s < 31 → t < 740 → mo M F w → F 2 = nI t → mt M f → (∀ M', mo M' (upd F 2 (nI (t + 1))) w → mt M' (upd f t (g_byte x s)) → (∀ j, j ≠ 31 → j ≠ 32 → M' j = M j) → mm_X mX10_feedOne 0 none (0, 0) 3 [.ref 31, .int x, .int (nI s + (-8))] [] M' Q) → mm_X mX10_feedOne 0 none (0, 0) 3 [.ref 31, .int x, .int (nI s)] [] M Q := by
    intro t s f F M Q hs ht h h2 o k
    have f2 := h.i 2 (by decide)
    rw [h2] at f2
    refine bX10_feedOne_3 o (h.r 1 32 (by decide)) f2 (by decide) (fun c => absurd c (nI_pos (by omega))) (fun _ => vp_in_nI ht (by decide)) (fun _ => ?_)
    rw [nI_clamp (by omega), nI_1]
    refine k _ ?_ ?_ (fun j j1 j2 => by rw [mm_upF_n j1, mm_up_n j2])
    · exact (h.up (a := 32) (by decide)).set 2 _ (by decide)
    · exact (mm_at.s o.1).nF (by decide)
  have uu : ∀ (F : Nat → Int32) (a b : Int32), upd (upd F 2 a) 2 b = upd F 2 b := fun F a b => by
    funext i
    unfold upd
    by_cases e : i = 2 <;> simp [e]
  refine mm_S.of rfl rfl (Nat.le_of_ble_eq_true rfl) (fun r M' h x e => by rw [h.1] at e; cases e) (bX10_feedOne_0 ?_)
  refine step t 24 f F M (by decide) (by omega) h h2 o (fun M1 a1 b1 c1 => ?_)
  rw [show nI 24 + (-8) = nI 16 from by decide]
  refine step (t + 1) 16 _ _ M1 (by decide) (by omega) a1 pk_us b1 (fun M2 a2 b2 c2 => ?_)
  rw [uu] at a2
  rw [show nI 16 + (-8) = nI 8 from by decide]
  refine step (t + 1 + 1) 8 _ _ M2 (by decide) (by omega) a2 pk_us b2 (fun M3 a3 b3 c3 => ?_)
  rw [uu] at a3
  rw [show nI 8 + (-8) = nI 0 from by decide]
  refine step (t + 1 + 1 + 1) 0 _ _ M3 (by decide) (by omega) a3 pk_us b3 (fun M4 a4 b4 c4 => ?_)
  rw [uu] at a4
  have f2 := a4.i 2 (by decide)
  exact bX10_feedOne_3 b4 (a4.r 1 32 (by decide)) f2 (by decide) (fun _ => ⟨rfl, a4, b4, fun j j1 j2 => by rw [c4 j j1 j2, c3 j j1 j2, c2 j j1 j2, c1 j j1 j2]⟩) (fun c => absurd (by decide) c) (fun c => absurd (by decide) c)
