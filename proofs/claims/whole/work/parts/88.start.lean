/-! THE LAW, FROM ITS ENTRY -/
theorem cw_L_8 : cn_N RL 8 RX9 13 := ⟨mm_inW 95 (by decide +kernel) (by decide +kernel), mm_inW 96 (by decide +kernel) (by decide +kernel), mm_inW 78 (by decide +kernel) (by decide +kernel)⟩
theorem cw_L_23 : cn_N RL 23 RX10 39 := ⟨mm_inW 1019 (by decide +kernel) (by decide +kernel), mm_inW 1013 (by decide +kernel) (by decide +kernel), mm_inW 88 (by decide +kernel) (by decide +kernel)⟩
theorem ck_L_22 : cn_CL RL 22 mX9_init := ⟨mm_inW 97 (by decide +kernel) (by decide +kernel), cbi_X9⟩
theorem ck_L_25 : cn_CL RL 25 mX10_init := ⟨mm_inW 1020 (by decide +kernel) (by decide +kernel), cbi_X10⟩
theorem lw_ws {s : State} {args : Array Value} (hts : ∀ w ∈ lw_tbl, w.before args s = true) : ∀ w ∈ mm_WS, w.before args s = true := fun w hw => hts w (List.mem_filter.mp hw).1
theorem lw_tb {w : Cond} (h : w ∈ tables_1) : w ∈ lw_tbl := List.mem_append_right _ h
theorem lw_known {s : State} {args : Array Value} (hts : ∀ w ∈ mm_WS, w.before args s = true) : ∀ q ∈ vwCl, ∃ (cC : ClassId) (iS : Nat → Nat), u_Kn s q.1 q.2.1 q.2.2 cC iS :=
  List.forall_mem_cons.mpr ⟨u_known hts iw_X0 (hts _ cw_X9_61.2.1), List.forall_mem_cons.mpr ⟨u_known hts iw_X1 (hts _ cw_X9_54.2.1), List.forall_mem_cons.mpr ⟨u_known hts iw_X2 (hts _ cw_X9_33.2.1), List.forall_mem_cons.mpr ⟨u_known hts iw_X3 (hts _ cw_X9_7.2.1), List.forall_mem_cons.mpr ⟨u_known hts iw_X4 (hts _ cw_X9_47.2.1), List.forall_mem_cons.mpr ⟨u_known hts iw_X5 (hts _ cw_X9_40.2.1), List.forall_mem_cons.mpr ⟨u_known hts iw_X6 (hts _ cw_X9_26.2.1), List.forall_mem_cons.mpr ⟨u_known hts iw_X7 (hts _ cw_X9_68.2.1), List.forall_mem_cons.mpr ⟨u_known hts iw_X8 (hts _ cw_X9_19.2.1), List.forall_mem_cons.mpr ⟨u_known hts iw_X9 (hts _ cw_L_8.2.1), List.forall_mem_cons.mpr ⟨u_known hts iw_X10 (hts _ cw_L_23.2.1), fun _ h => absurd h List.not_mem_nil⟩⟩⟩⟩⟩⟩⟩⟩⟩⟩⟩
theorem lw_D {s : State} {args : Array Value} (hts : ∀ w ∈ mm_WS, w.before args s = true) : ∃ D : va_G, ∀ (k : Nat) (q : vw_C), vwCl[k]? = some q → u_Kn s q.1 q.2.1 q.2.2 (D.1 k) (D.2 k) := by
  have h : ∀ k : Nat, ∃ x : ClassId × (Nat → Nat), ∀ q : vw_C, vwCl[k]? = some q → u_Kn s q.1 q.2.1 q.2.2 x.1 x.2 := by
    intro k
    cases e : vwCl[k]? with
    | none => exact ⟨(default, fun _ => 0), fun q hq => by cases hq⟩
    | some q =>
      obtain ⟨cC, iS, h1⟩ := lw_known hts q (List.mem_of_getElem? e)
      exact ⟨(cC, iS), fun q' hq => by cases hq; exact h1⟩
  obtain ⟨f, hf⟩ := Classical.axiomOfChoice h
  exact ⟨(fun k => (f k).1, fun k => (f k).2), hf⟩
theorem lw_arr {s : State} {args : Array Value} {ty : FieldType} (hn : ∀ C, ty ≠ .object C) (h : (Cond.arrayClass ty).before args s = true) : ∃ cA : ClassId, ArrOfT s cA ty ∧ va_RA s cA ty := by
  obtain ⟨cA, kA, comp, h1, h2, h3⟩ := Cond.arrayClass_spec h
  refine ⟨cA, fun n z => ⟨fun k h => (by cases h), kA, h2, comp, h3⟩, ?_⟩
  cases ty <;> first | exact h1 | exact absurd rfl (hn _)
theorem lw_NW {s : State} {args : Array Value} (hts : ∀ w ∈ lw_tbl, w.before args s = true) : mm_NWs s := by
  intro w hw
  obtain ⟨h1, h2⟩ := List.mem_filter.mp hw
  refine va_Nw.of ?_ (hts w (lw_tb h1))
  cases w <;> first | rfl | (simp [mm_isN] at h2)
theorem lw_B {s : State} {args : Array Value} (hts : ∀ w ∈ lw_tbl, w.before args s = true) : vt_B s := fun w hw => va_Nw.of (vt_ot w hw) (hts w (lw_tb (vt_h3 w hw)))
theorem lw_stat : Cond.laysStatic Bundle.tN "UNASSIGNED_STACK" Bundle.steD ∈ tables_1 ∧ Cond.laysStatic Bundle.tN "SUPPRESSED_SENTINEL" Bundle.listD ∈ tables_1 ∧ Cond.initialized Bundle.tN ∈ tables_1 := ⟨by decide +kernel, by decide +kernel, by decide +kernel⟩
set_option maxHeartbeats 4000000 in
set_option maxRecDepth 100000 in
theorem whole_start {p : Program} {e : Env} {s : State} {m : MethodId} {below : List Frame} {meth : Method} {c : Code} (l : Launch) (hflags : l.flags = flags0) {b L : Nat} {xs : Nat → Int32} (hL : L ≤ 3072) (C0 : lw_At p s m meth c b L xs) : W p l e room_1 s m #[Value.ref b] below meth c s.heap [] 0 0 (lw_Z below #[Value.ref b] s) (entryFrame m ([Value.ref b] : List Value).toArray 7) := by
  obtain ⟨hx, hb, hr, hml, hown, hts, hX, hbl, hlocks, hgv⟩ := id C0
  have hts' := lw_ws hts
  have hgs := flat_of_before _ hgv
  obtain ⟨D, hD0⟩ := lw_D hts'
  obtain ⟨cI, hI1, hI2⟩ := lw_arr (ty := .int) (fun _ h => nomatch h) (hts' _ aw_I)
  obtain ⟨cJ, hJ1, hJ2⟩ := lw_arr (ty := .long) (fun _ h => nomatch h) (hts' _ aw_J)
  obtain ⟨cZ, hZ1, hZ2⟩ := lw_arr (ty := .boolean) (fun _ h => nomatch h) (hts' _ aw_Z)
  obtain ⟨cy, ey⟩ : ∃ cy : Nat → ClassId, cy = fun k => if k = 0 then cI else if k = 1 then cJ else cZ := ⟨_, rfl⟩
  have y0 : cy 0 = cI := by rw [ey]; rfl
  have y1 : cy 1 = cJ := by rw [ey]; rfl
  have y2 : cy 2 = cZ := by rw [ey]; rfl
  obtain ⟨A, eA⟩ : ∃ A : Nat → Prop, A = fun q => s.heap.size ≤ q := ⟨_, rfl⟩
  have hA : ∀ q, s.heap.size ≤ q → A q := fun q h => by rw [eA]; exact h
  have hA' : ∀ q, A q → s.heap.size ≤ q := fun q h => by rw [eA] at h; exact h
  have hbA : ¬ A b := fun h => absurd (hA' b h) (by omega)
  have hK : va_K D vwCl (mm_tys cy) s := by
    refine ⟨hD0, fun k q hq => ?_⟩
    match k, hq with
    | 0, hq => cases hq; rw [y0]; exact ⟨hI1, hI2⟩
    | 1, hq => cases hq; rw [y1]; exact ⟨hJ1, hJ2⟩
    | 2, hq => cases hq; rw [y2]; exact ⟨hZ1, hZ2⟩
    | k + 3, hq => simp [mm_tys] at hq
  have hE : mm_E A s s.heap := ⟨vx_Zqof (hts _ (lw_tb lw_stat.1)) (hts _ (lw_tb lw_stat.2.2)) (hgs _ (by decide +kernel)) (fun a h1 h2 => absurd (hA' a h2) (by omega)), vx_Zqof (hts _ (lw_tb lw_stat.2.1)) (hts _ (lw_tb lw_stat.2.2)) (hgs _ (by decide +kernel)) (fun a h1 h2 => absurd (hA' a h2) (by omega))⟩
  have hNW := lw_NW hts
  have hvB := lw_B hts
  have C : mm_Cx mL_law 40 none (p, l, e, room_1, s, m, #[Value.ref b], below, meth, c, D, (fun _ => b), cy, A) := ⟨hx, hb, hml, hr, hown, hts', hlocks, hK, hNW, hE, hA, by decide, by decide, hflags, trivial⟩
  have hc : 100 ≤ room_1.cells := by decide
  have hs : 4000 ≤ room_1.slots := by decide
  have G : cn_G mL_law (p, l, e, room_1, s, m, #[Value.ref b], below, meth, c, D, (fun _ => b), cy, A) (lw_Z below #[Value.ref b] s) mm_scr b (0, 0) 0 [(0, .ref mm_scr)] [] [] := by
    refine cn_new (zf := (100, 4000)) (z := (0, 0)) (ci := 9) (N := 13) (k := 0) (Cn := RX9) (T := TX9) (fs := [.null, .null, .null, .null, .null, .null, .null, .null, .null, .null, .int 0, .int 0, .int 0]) (L := []) tyX9 C hc hs dL_law_0 cw_L_8 rfl iw_X9 tyX9_ok (fun j hj => by rcases (show j = 0 ∨ j = 1 ∨ j = 2 ∨ j = 3 ∨ j = 4 ∨ j = 5 ∨ j = 6 ∨ j = 7 ∨ j = 8 ∨ j = 9 ∨ j = 10 ∨ j = 11 ∨ j = 12 by omega) with rfl | rfl | rfl | rfl | rfl | rfl | rfl | rfl | rfl | rfl | rfl | rfl | rfl <;> rfl) rfl (by decide) (by decide) rfl ?_
    refine cn_dup C dL_law_3 ?_
    refine cn_callL (zf := (100, 4000)) (z := (1, 13)) (k := 0) (L := []) C hc hs dL_law_4 ck_L_22 cn_X9 rfl (Nat.le_of_ble_eq_true rfl) (by decide) (by decide) (by decide) rfl (by decide) rfl rfl (by decide) ?_
    refine cn_astore_n C dL_law_7 (by decide) (by decide) ?_
    refine cn_new (zf := (100, 4000)) (z := (31, 1728)) (ci := 10) (N := 39) (k := 31) (Cn := RX10) (T := TX10) (fs := (.int 0 :: .null :: .int 0 :: .int 0 :: .int 0 :: .int 0 :: .int 0 :: .int 0 :: .int 0 :: .long 0 :: .null :: .null :: .null :: .null :: .null :: .null :: .null :: .null :: .null :: .null :: .null :: .int 0 :: .null :: .null :: .null :: .null :: .int 0 :: .int 0 :: .int 0 :: .null :: .null :: .int 0 :: .null :: .int 0 :: .int 0 :: .null :: .null :: .null :: .int 0 :: [])) (L := cnL9.map (cn_sc 0)) tyX10 C hc hs dL_law_8 cw_L_23 rfl iw_X10 tyX10_ok (fun j hj => by rcases (show j = 0 ∨ j = 1 ∨ j = 2 ∨ j = 3 ∨ j = 4 ∨ j = 5 ∨ j = 6 ∨ j = 7 ∨ j = 8 ∨ j = 9 ∨ j = 10 ∨ j = 11 ∨ j = 12 ∨ j = 13 ∨ j = 14 ∨ j = 15 ∨ j = 16 ∨ j = 17 ∨ j = 18 ∨ j = 19 ∨ j = 20 ∨ j = 21 ∨ j = 22 ∨ j = 23 ∨ j = 24 ∨ j = 25 ∨ j = 26 ∨ j = 27 ∨ j = 28 ∨ j = 29 ∨ j = 30 ∨ j = 31 ∨ j = 32 ∨ j = 33 ∨ j = 34 ∨ j = 35 ∨ j = 36 ∨ j = 37 ∨ j = 38 by omega) with rfl | rfl | rfl | rfl | rfl | rfl | rfl | rfl | rfl | rfl | rfl | rfl | rfl | rfl | rfl | rfl | rfl | rfl | rfl | rfl | rfl | rfl | rfl | rfl | rfl | rfl | rfl | rfl | rfl | rfl | rfl | rfl | rfl | rfl | rfl | rfl | rfl | rfl | rfl <;> rfl) rfl (by decide) (by decide) rfl ?_
    refine cn_dup C dL_law_11 ?_
    refine cn_callL (zf := (100, 4000)) (z := (32, 1767)) (k := 31) (L := cnL9.map (cn_sc 0)) C hc hs dL_law_12 ck_L_25 cn_X10 rfl (Nat.le_of_ble_eq_true rfl) (by decide) (by decide) (by decide) rfl (by decide) rfl rfl (by decide) ?_
    refine cn_astore_n C dL_law_15 (by decide) (by decide) ?_
    refine cn_iconst (v := 1) C dL_law_16 (by decide) ?_
    refine cn_newJ (zf := (100, 4000)) (z := (54, 3255)) (n := 1) (N := 1) (k := 54) (L := cnL9.map (cn_sc 0) ++ cnL10.map (cn_sc 31)) C hc hs dL_law_17 aw_J (by decide) (by decide) (by decide) (by decide) (by decide) rfl ?_
    refine cn_astore_n C dL_law_19 (by decide) (by decide) ?_
    refine cn_iconst (v := 0) C dL_law_20 (by decide) ?_
    intro a H locs lsA ha hR hl
    obtain ⟨r1, r2, r3⟩ := hR
    refine lv_istore (lv' := [(4, .int (nI 0)), (3, .ref (a 54)), (2, .ref (a 31)), (1, .ref (a 0)), (0, .ref (a mm_scr))]) hx hb dL_law_21 hl (by decide) rfl (fun ls hl2 => ?_)
    refine law_loop hL (L + 1) 0 (55, 3256) lw_M lw_s (Nat.zero_le L) (by omega) (by show 55 + (L + 1) ≤ 601024; omega) (by show 3256 + 6 * (L + 1) ≤ 7293034; omega) lw_lq (p, l, e, room_1, s, m, #[Value.ref b], below, meth, c, D, a, cy, A) (lw_Z below #[Value.ref b] s) ⟨⟨hx, hb, hml, hr, hown, hts', hlocks, hK, hNW, hE, hA, by decide, by decide, hflags, by rw [ha]; exact hX, by rw [ha]; exact hbl, by rw [ha]; exact hbA, rfl⟩, hvB⟩ ?_ H locs ls (by show 55 ≤ room_1.cells; decide) (by show 3256 ≤ room_1.slots; decide) ⟨r1, r2, r3⟩ ⟨rfl, _, hl2, ?_⟩
    · intro r M H locs z pc lsB hq hR hz1 hz2 hsz hend
      subst hq
      obtain ⟨hd, ty, hy, hn⟩ := hend
      refine va_forget (fun q hq => hA' _ (hR.2.2.2.2 q hq)) ?_
      refine W.widen (k := 601024) (n := 7293034) hz1 hz2 ?_
      exact lw_ret hx hb hr hlocks hd
    · intro i v hi hv
      match i, hi with
      | 0, hi => cases hi; exact List.mem_of_getElem? (i := 4) rfl
      | 1, hi => cases hi; exact List.mem_of_getElem? (i := 3) rfl
      | 2, hi => cases hi; exact List.mem_of_getElem? (i := 2) rfl
      | 3, hi => cases hi; exact List.mem_of_getElem? (i := 1) rfl
      | 4, hi => cases hi; exact List.mem_of_getElem? (i := 0) rfl
      | 5, hi => cases hi; exact absurd rfl hv
      | 6, hi => cases hi; exact absurd rfl hv
      | i + 7, hi => simp at hi
  have hl := lv_entry ([.ref b]) (n := 7) (Nat.le_of_ble_eq_true rfl)
  rw [lg_entry_eq]
  generalize (lg_sl ([.ref b]) ++ List.replicate (7 - (lg_sl ([.ref b])).length) Slot.unset).toArray = ls at hl ⊢
  have hl : lv_has ls 7 [(0, .ref b)] := hl
  exact G (fun _ => b) s.heap [] ls rfl ⟨fun k q h => by simp [cn_ws] at h, ⟨fun i j p q h => by simp [cn_ws] at h, fun k q h => by simp [cn_ws] at h⟩, va_S.rf⟩ hl
