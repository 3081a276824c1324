/-! A METHOD THAT MAKES NO CELL ENDS WITH NONE MADE: the end of a judgement, with the room that was there at its start -/
theorem vt_room {s : State} {pl : Platform} {R : Room} (h : s.hasRoom pl R = true) : s.hasRoom pl { R with cells := 0, slots := 0 } = true := by
  simp only [State.hasRoom, Bool.and_eq_true, decide_eq_true_eq] at h ⊢
  obtain ⟨⟨⟨⟨h1, h2, h3, h4, h5, h6⟩, h7⟩, h8⟩, h9⟩ := h
  exact ⟨⟨⟨⟨h1, h2, h3, h4, h5, h6⟩, by omega⟩, by omega⟩, h9⟩
def vt_F (y : mm_MR) (t : mm_T) (Z : State → Prop) (Q : Option Value → mm_Mem → Prop) : Prop :=
  match t with
  | (_, _, _, _, _, _, _, _, _, _, _, ad, _, _) => ∀ (r : Option Value) (M : mm_Mem) (H : Heap) (locs : List Loc) (pc : Nat) (lsA : Array Slot), Q r M → mm_R t M H locs → lsA.size = y.2.2.1 → mm_end y pc r → mm_W t H locs (0, 0) Z pc lsA ((mm_endS r).map (mm_cv ad))
theorem vt_run {y : mm_MR} {d pc : Nat} {ls st : List Value} {M : mm_Mem} {Q : Option Value → mm_Mem → Prop} (h : mm_X y d none (0, 0) pc ls st M Q) {t : mm_T} {Z : State → Prop} (C : mm_Cx y d none t) (F : vt_F y t Z Q) {H : Heap} {locs : List Loc} {lsA : Array Slot} (hR : mm_R t M H locs) (hL : mm_L t.2.2.2.2.2.2.2.2.2.2.2.1 y.2.2.1 lsA ls) : mm_W t H locs (0, 0) Z pc lsA (st.map (mm_cv t.2.2.2.2.2.2.2.2.2.2.2.1)) := by
  obtain ⟨p, l, e, R, s, m, args, below, meth, c, D, ad, cy, A⟩ := t
  have K := h (p, l, e, { R with cells := 0, slots := 0 }, s, m, args, below, meth, c, D, ad, cy, A)
    (fun u => ∃ (r : Option Value) (M : mm_Mem) (H : Heap) (locs : List Loc) (pc : Nat) (lsA : Array Slot) (T : State), u = T.setTop (F0 m pc lsA ((mm_endS r).map (mm_cv ad))) ∧ Q r M ∧ mm_R (p, l, e, R, s, m, args, below, meth, c, D, ad, cy, A) M H locs ∧ lsA.size = y.2.2.1 ∧ mm_end y pc r ∧ T.heap = H ∧ Stand p l e { R with cells := 0, slots := 0 } s m args below meth c T locs 0 0)
    C (fun r M H locs z pc lsA hq hR hz1 hz2 hsz hend => by
      obtain ⟨z1, z2⟩ := z
      have e1 : z1 = 0 := Nat.le_zero.mp hz1
      have e2 : z2 = 0 := Nat.le_zero.mp hz2
      subst e1
      subst e2
      exact fun T hT X => ⟨_, Steps.refl _, r, M, H, locs, pc, lsA, T, rfl, hq, hR, hsz, hend, hT, X⟩) H locs lsA (Nat.le_refl 0) (Nat.le_refl 0) hR hL
  intro T hT X
  obtain ⟨u, st1, r, M1, H1, locs1, pc1, lsB, T1, rfl, hq, hR1, hsz, hend, hT1, X1⟩ := K T hT { X with room := vt_room X.room }
  obtain ⟨t2, a1, b1⟩ := F r M1 H1 locs1 pc1 lsB hq hR1 hsz hend T1 hT1 { X1 with room := X.room }
  exact ⟨t2, st1.trans a1, b1⟩
