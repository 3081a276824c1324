/-! THE LAW'S WRAPPERS: near, line, rootLine in a try; 1 and nothing, or 0 and the answer in out[0] -/
abbrev mL_near : mm_MR := (yL_near, cL_near, 4, some .int)
abbrev mL_line : mm_MR := (yL_line, cL_line, 5, some .int)
abbrev mL_rootLine : mm_MR := (yL_rootLine, cL_rootLine, 5, some .int)
theorem CS.rc0 {M : mm_Mem} {σ : g_st} (h : CS M σ) : mm_rc M 0 9 := by
  obtain ⟨n, T, L, K, t, f, fk⟩ := σ
  obtain ⟨⟨pf, sd, h1, h2⟩, -⟩ := h
  exact (h1.r 0 1 (by decide)).rc
def lt_w (y : mm_MR) (hh : List (Nat × Nat × Nat × Nat)) : List Cond := Cond.codeWith y.1 y.2.1 y.2.2.1 y.2.2.2 hh :: mm_WS
def lt_S (d : Nat) (y : mm_MR) (hh : List (Nat × Nat × Nat × Nat)) (av : List Value) (M : mm_Mem) (P : Option Value → mm_Mem → Prop) : Prop :=
  ∀ (l : Launch) (D : va_G) (ad : Nat → Nat) (cy : Nat → ClassId) (A : Nat → Prop), l.flags = flags0 → Met l y.1 (lt_w y hh) (mm_rm d 1 6) (vt_Pc D ad cy A av M) (mm_Qc D ad cy A P) 1 6 A
def lt_P (M : mm_Mem) (σ : g_st) (o : Option Int32) (r : Option Value) (M' : mm_Mem) : Prop := r = some (.int (if o = none then 1 else 0)) ∧ CS M' σ ∧ (∀ j, 31 ≤ j → j ≠ 54 → M' j = M j) ∧ ∃ f, mm_at M' 54 (mm_aJ 1 f) ∧ ∀ v, o = some v → f 0 = v.toInt64
theorem lt_in : vp_in 0 1 := (show ¬ ((0 : Int32) < 0 ∨ 1 ≤ Int32.toNatClampNeg 0) by decide)
theorem lt_wk : Cond.classLink RL 13 vt_E ∈ mm_WS := mm_inW 919 (by decide +kernel) (by decide +kernel)
theorem xC_cases {M : mm_Mem} {σ : g_st} {o : Option Int32} : ∀ r M', xC M σ o r M' → r = mm_thrown ∨ ∃ x, r = some (.int x) := by
  intro r M' h
  cases o with
  | none => exact Or.inl h.1
  | some v => exact Or.inr ⟨v, h.1⟩
theorem lt_thr {M M' : mm_Mem} {σ : g_st} {o : Option Int32} {f0 : Nat → Int64} (h54 : mm_at M 54 (mm_aJ 1 f0)) (h : xC M σ o mm_thrown M') : lt_P M σ o (some (.int 1)) M' := by
  obtain ⟨e1, e2, e3⟩ := h
  cases o with
  | none => exact ⟨rfl, e2, fun j hj _ => e3 j hj, f0, ⟨h54.1, (e3 54 (by decide)).trans h54.2⟩, fun v hv => nomatch hv⟩
  | some v => exact absurd e1 (by simp [xr, mm_thrown])
theorem lt_ok {M M' : mm_Mem} {σ : g_st} {o : Option Int32} {f0 : Nat → Int64} {r : Int32} (h54 : mm_at M 54 (mm_aJ 1 f0)) (h : xC M σ o (some (.int r)) M') : mm_at M' 54 (mm_aJ 1 f0) ∧ lt_P M σ o (some (.int 0)) (mm_up M' 54 (mm_aJ 1 (vp_updL f0 (Int32.toNatClampNeg 0) r.toInt64))) := by
  obtain ⟨e1, e2, e3⟩ := h
  cases o with
  | none => exact absurd e1 (by simp [xr, mm_thrown])
  | some v =>
    have e4 : r = v := by simpa [xr] using e1
    subst e4
    refine ⟨⟨h54.1, (e3 54 (by decide)).trans h54.2⟩, rfl, e2.eq (fun j hj => mm_up_n (by omega)), fun j hj hn => (mm_up_n hn).trans (e3 j hj), _, ⟨h54.1, mm_up_s⟩, fun w hw => ?_⟩
    cases hw
    simp [vp_updL]
theorem vt_X_near {M : mm_Mem} {σ : g_st} {x : Int32} (h : CS M σ) : vt_XS 8 mX9_near [.ref 0, .int x] M (xC M σ (o_near σ x)) := vt_XS.of (d0 := 2) (by decide +kernel) rfl (Nat.le_of_ble_eq_true rfl) rfl vt_near xC_cases (Nat.le_of_ble_eq_true rfl) (Nat.le_of_ble_eq_true rfl) (xC_near h)
theorem lt_near {M : mm_Mem} {σ : g_st} {x : Int32} {f0 : Nat → Int64} (hC : CS M σ) (h54 : mm_at M 54 (mm_aJ 1 f0)) : lt_S 9 mL_near [(0, 9, 12, 13)] [.ref 0, .int x, .ref 54] M (lt_P M σ (o_near σ x)) := by
  obtain ⟨hb0, fs0, hM0⟩ := hC.rc0
  intro l D ad cy A hfl
  refine va_MetW (cc := cL_near) (maxL := 4) (ret := some .int) (hh := [(0, 9, 12, 13)]) (by decide +kernel) rfl ?_
  intro p e s m args below meth c s₁ B hml hv
  obtain ⟨⟨rfl, v1, v2, v3, v4, v5, v6⟩, hB⟩ := hv
  have hts := atoms_spec (ws := lt_w mL_near [(0, 9, 12, 13)]) B.pre
  have hts' : ∀ w ∈ mm_WS, w.before ([.ref 0, .int x, .ref 54].map (mm_cv ad)).toArray s = true := fun w hw => hts w (List.mem_cons_of_mem _ hw)
  have hown : s.vm.findClass RL = some m.cls := findClass_of_methodNamed B.named
  have hx := B.exec
  have hb := B.bytes
  have hr := B.returns
  have hlocks := B.notSynchronized
  have htab : c.exceptionTable.toList = tableOf [(0, 9, 12, 13)] := vx_table (x := yL_near) B (hts _ List.mem_cons_self)
  have hl := lv_entry ([.ref (ad 0), .int x, .ref (ad 54)]) (n := 4) (Nat.le_of_ble_eq_true rfl)
  rw [lg_entry_eq]
  change W _ _ _ _ _ _ _ _ _ _ _ _ _ _ _ (F0 m 0 (lg_sl ([.ref (ad 0), .int x, .ref (ad 54)]) ++ List.replicate (4 - (lg_sl ([.ref (ad 0), .int x, .ref (ad 54)])).length) Slot.unset).toArray [])
  generalize (lg_sl ([.ref (ad 0), .int x, .ref (ad 54)]) ++ List.replicate (4 - (lg_sl ([.ref (ad 0), .int x, .ref (ad 54)])).length) Slot.unset).toArray = lsA at hl ⊢
  have hl : lv_has lsA 4 [(0, .ref (ad 0)), (1, .int x), (2, .ref (ad 54))] := hl
  have hS : va_S A s.heap s.heap [] := va_S.rf
  refine lv_aload_n hx hb dL_near_0 rfl (lv_at hl 2 rfl) ?_
  refine lv_iconst (v := 0) hx hb dL_near_1 (by decide) ?_
  refine lv_aload_n hx hb dL_near_2 rfl (lv_at hl 0 rfl) ?_
  refine lv_iload_n hx hb dL_near_3 rfl (lv_at hl 1 rfl) ?_
  obtain ⟨c1, c2, c3, c4, c5, c6, c7⟩ := cs_L_7
  have cb := callB_of (R := (headSpec (lt_w mL_near [(0, 9, 12, 13)]) (mm_rm 9 1 6)).room) (own := RL) (index := 7) (y := mX9_near.1) (bytes := mX9_near.2.1) (maxL := mX9_near.2.2.1) (ret := mX9_near.2.2.2) (ws := mm_w mX9_near) (rm := mm_rm 8 1 6) (mc := 1) (ms := 6) 1 hts' (mm_good mX9_near c4) rfl rfl rfl (hts' _ c5) (hts' _ c1) c6 ⟨Nat.le_of_ble_eq_true rfl, Nat.le_of_ble_eq_true rfl⟩
  refine vx_calli (A0 := A) (A1 := A) (AX := A) (vx_runV (b := ad 0) (As := [.int x]) (rest := [.int 0, .ref (ad 54)]) ⟨hx, hb, hml, hown, hts'⟩ (vt_X_near (M := M) (σ := σ) hC l D ad cy A hfl) ⟨cb, hts' _ c2, hts' _ c3⟩ ⟨vt_blind, mm_recv (M := M) (b := 0) v3 v1 hb0 hM0 rfl, fun U hU hW => ⟨mm_pre (As := [.ref 0, .int x]) v3 v4 v5 v6 v1 v2 hS U hU hW, vt_B.warm hW hB⟩⟩ rfl rfl hl.1 rfl (lv_room (Nat.le_of_ble_eq_true rfl)) dL_near_4 ⟨Nat.le_refl 1, Nat.le_refl 6⟩) hS (fun _ _ h => h) (fun _ h => h) (fun _ _ h => h) ?_ ?_
  · intro E ce q9 M' u H1 locs1 hu hvm hp hB1 hz1 hk1 hS1 hq hv hcl
    obtain ⟨rfl, b1, b2⟩ := hB1
    rw [hu] at b1
    refine vx_catch (own := RL) (name := vt_E) hown [] ⟨0, 9, 12, 13⟩ [] (by rw [htab]; rfl) (fun z hz => nomatch hz) rfl (by decide) (hts' _ lt_wk) (va_Nw.use rfl (hB (Cond.castable vt_E vt_E) (List.mem_cons_self))) hq hv hcl ?_
    refine lv_astore_n (lv' := [(3, .ref q9), (0, .ref (ad 0)), (1, .int x), (2, .ref (ad 54))]) hx hb dL_near_12 rfl hl (by decide) rfl (fun ls hl => ?_)
    refine lv_iconst (v := 1) hx hb dL_near_13 (by decide) ?_
    exact W.zret (v := 1) hx hb hr rfl (fun u2 hu2 hW2 => ⟨⟨some (.int 1), M', lt_thr h54 hp, rfl, by rw [hu2]; exact b1, b2⟩, hS1.F hu2⟩) hS1.2.2 dL_near_14 hlocks
  · intro r M' u H1 locs1 hu hvm hp hB1 hz1 hk1 hS1
    obtain ⟨b1, b2⟩ := hB1
    rw [hu] at b1
    obtain ⟨h54', hP⟩ := lt_ok h54 hp
    refine lv_i2l hx hb dL_near_7 rfl ?_
    refine va_last hx hb v3 b1 b2 hS1 54 1 (by rw [mm_ws_at (by decide), h54'.2]; rfl) rfl lt_in dL_near_8 (fun H2 locs2 g1 g2 g3 => ?_)
    have e7 := mm_ws_up (ad := ad) (cy := cy) (M := M') (c := mm_aJ 1 (vp_updL f0 (Int32.toNatClampNeg 0) r.toInt64)) (k := 54) (by decide)
    simp only [mm_cc] at e7
    rw [e7] at g1 g2
    refine lv_goto (tgt := 15) hx hb dL_near_9 (by decide) ?_
    refine lv_iconst (v := 0) hx hb dL_near_15 (by decide) ?_
    exact W.zret (v := 0) hx hb hr rfl (fun u2 hu2 hW2 => ⟨⟨some (.int 0), _, hP, rfl, by rw [hu2]; exact g1, g2⟩, g3.F hu2⟩) g3.2.2 dL_near_16 hlocks
theorem vt_X_line {M : mm_Mem} {σ : g_st} {x y : Int32} (h : CS M σ) : vt_XS 8 mX9_line [.ref 0, .int x, .int y] M (xC M σ (o_line σ x y)) := vt_XS.of (d0 := 3) (by decide +kernel) rfl (Nat.le_of_ble_eq_true rfl) rfl vt_line xC_cases (Nat.le_of_ble_eq_true rfl) (Nat.le_of_ble_eq_true rfl) (xC_line h)
theorem lt_line {M : mm_Mem} {σ : g_st} {x y : Int32} {f0 : Nat → Int64} (hC : CS M σ) (h54 : mm_at M 54 (mm_aJ 1 f0)) : lt_S 9 mL_line [(0, 10, 13, 13)] [.ref 0, .int x, .int y, .ref 54] M (lt_P M σ (o_line σ x y)) := by
  obtain ⟨hb0, fs0, hM0⟩ := hC.rc0
  intro l D ad cy A hfl
  refine va_MetW (cc := cL_line) (maxL := 5) (ret := some .int) (hh := [(0, 10, 13, 13)]) (by decide +kernel) rfl ?_
  intro p e s m args below meth c s₁ B hml hv
  obtain ⟨⟨rfl, v1, v2, v3, v4, v5, v6⟩, hB⟩ := hv
  have hts := atoms_spec (ws := lt_w mL_line [(0, 10, 13, 13)]) B.pre
  have hts' : ∀ w ∈ mm_WS, w.before ([.ref 0, .int x, .int y, .ref 54].map (mm_cv ad)).toArray s = true := fun w hw => hts w (List.mem_cons_of_mem _ hw)
  have hown : s.vm.findClass RL = some m.cls := findClass_of_methodNamed B.named
  have hx := B.exec
  have hb := B.bytes
  have hr := B.returns
  have hlocks := B.notSynchronized
  have htab : c.exceptionTable.toList = tableOf [(0, 10, 13, 13)] := vx_table (x := yL_line) B (hts _ List.mem_cons_self)
  have hl := lv_entry ([.ref (ad 0), .int x, .int y, .ref (ad 54)]) (n := 5) (Nat.le_of_ble_eq_true rfl)
  rw [lg_entry_eq]
  change W _ _ _ _ _ _ _ _ _ _ _ _ _ _ _ (F0 m 0 (lg_sl ([.ref (ad 0), .int x, .int y, .ref (ad 54)]) ++ List.replicate (5 - (lg_sl ([.ref (ad 0), .int x, .int y, .ref (ad 54)])).length) Slot.unset).toArray [])
  generalize (lg_sl ([.ref (ad 0), .int x, .int y, .ref (ad 54)]) ++ List.replicate (5 - (lg_sl ([.ref (ad 0), .int x, .int y, .ref (ad 54)])).length) Slot.unset).toArray = lsA at hl ⊢
  have hl : lv_has lsA 5 [(0, .ref (ad 0)), (1, .int x), (2, .int y), (3, .ref (ad 54))] := hl
  have hS : va_S A s.heap s.heap [] := va_S.rf
  refine lv_aload_n hx hb dL_line_0 rfl (lv_at hl 3 rfl) ?_
  refine lv_iconst (v := 0) hx hb dL_line_1 (by decide) ?_
  refine lv_aload_n hx hb dL_line_2 rfl (lv_at hl 0 rfl) ?_
  refine lv_iload_n hx hb dL_line_3 rfl (lv_at hl 1 rfl) ?_
  refine lv_iload_n hx hb dL_line_4 rfl (lv_at hl 2 rfl) ?_
  obtain ⟨c1, c2, c3, c4, c5, c6, c7⟩ := cs_L_15
  have cb := callB_of (R := (headSpec (lt_w mL_line [(0, 10, 13, 13)]) (mm_rm 9 1 6)).room) (own := RL) (index := 15) (y := mX9_line.1) (bytes := mX9_line.2.1) (maxL := mX9_line.2.2.1) (ret := mX9_line.2.2.2) (ws := mm_w mX9_line) (rm := mm_rm 8 1 6) (mc := 1) (ms := 6) 2 hts' (mm_good mX9_line c4) rfl rfl rfl (hts' _ c5) (hts' _ c1) c6 ⟨Nat.le_of_ble_eq_true rfl, Nat.le_of_ble_eq_true rfl⟩
  refine vx_calli (A0 := A) (A1 := A) (AX := A) (vx_runV (b := ad 0) (As := [.int x, .int y]) (rest := [.int 0, .ref (ad 54)]) ⟨hx, hb, hml, hown, hts'⟩ (vt_X_line (M := M) (σ := σ) hC l D ad cy A hfl) ⟨cb, hts' _ c2, hts' _ c3⟩ ⟨vt_blind, mm_recv (M := M) (b := 0) v3 v1 hb0 hM0 rfl, fun U hU hW => ⟨mm_pre (As := [.ref 0, .int x, .int y]) v3 v4 v5 v6 v1 v2 hS U hU hW, vt_B.warm hW hB⟩⟩ rfl rfl hl.1 rfl (lv_room (Nat.le_of_ble_eq_true rfl)) dL_line_5 ⟨Nat.le_refl 1, Nat.le_refl 6⟩) hS (fun _ _ h => h) (fun _ h => h) (fun _ _ h => h) ?_ ?_
  · intro E ce q9 M' u H1 locs1 hu hvm hp hB1 hz1 hk1 hS1 hq hv hcl
    obtain ⟨rfl, b1, b2⟩ := hB1
    rw [hu] at b1
    refine vx_catch (own := RL) (name := vt_E) hown [] ⟨0, 10, 13, 13⟩ [] (by rw [htab]; rfl) (fun z hz => nomatch hz) rfl (by decide) (hts' _ lt_wk) (va_Nw.use rfl (hB (Cond.castable vt_E vt_E) (List.mem_cons_self))) hq hv hcl ?_
    refine lv_astore (lv' := [(4, .ref q9), (0, .ref (ad 0)), (1, .int x), (2, .int y), (3, .ref (ad 54))]) hx hb dL_line_13 hl (by decide) rfl (fun ls hl => ?_)
    refine lv_iconst (v := 1) hx hb dL_line_15 (by decide) ?_
    exact W.zret (v := 1) hx hb hr rfl (fun u2 hu2 hW2 => ⟨⟨some (.int 1), M', lt_thr h54 hp, rfl, by rw [hu2]; exact b1, b2⟩, hS1.F hu2⟩) hS1.2.2 dL_line_16 hlocks
  · intro r M' u H1 locs1 hu hvm hp hB1 hz1 hk1 hS1
    obtain ⟨b1, b2⟩ := hB1
    rw [hu] at b1
    obtain ⟨h54', hP⟩ := lt_ok h54 hp
    refine lv_i2l hx hb dL_line_8 rfl ?_
    refine va_last hx hb v3 b1 b2 hS1 54 1 (by rw [mm_ws_at (by decide), h54'.2]; rfl) rfl lt_in dL_line_9 (fun H2 locs2 g1 g2 g3 => ?_)
    have e7 := mm_ws_up (ad := ad) (cy := cy) (M := M') (c := mm_aJ 1 (vp_updL f0 (Int32.toNatClampNeg 0) r.toInt64)) (k := 54) (by decide)
    simp only [mm_cc] at e7
    rw [e7] at g1 g2
    refine lv_goto (tgt := 17) hx hb dL_line_10 (by decide) ?_
    refine lv_iconst (v := 0) hx hb dL_line_17 (by decide) ?_
    exact W.zret (v := 0) hx hb hr rfl (fun u2 hu2 hW2 => ⟨⟨some (.int 0), _, hP, rfl, by rw [hu2]; exact g1, g2⟩, g3.F hu2⟩) g3.2.2 dL_line_18 hlocks
theorem vt_X_rootLine {M : mm_Mem} {σ : g_st} {x y : Int32} (h : CS M σ) : vt_XS 24 mX9_rootLine [.ref 0, .int x, .int y] M (xC M σ (o_rootLine σ x y)) := vt_XS.of (d0 := 20) (by decide +kernel) rfl (Nat.le_of_ble_eq_true rfl) rfl vt_rootLine xC_cases (Nat.le_of_ble_eq_true rfl) (Nat.le_of_ble_eq_true rfl) (xC_rootLine h)
theorem lt_rootLine {M : mm_Mem} {σ : g_st} {x y : Int32} {f0 : Nat → Int64} (hC : CS M σ) (h54 : mm_at M 54 (mm_aJ 1 f0)) : lt_S 25 mL_rootLine [(0, 10, 13, 13)] [.ref 0, .int x, .int y, .ref 54] M (lt_P M σ (o_rootLine σ x y)) := by
  obtain ⟨hb0, fs0, hM0⟩ := hC.rc0
  intro l D ad cy A hfl
  refine va_MetW (cc := cL_rootLine) (maxL := 5) (ret := some .int) (hh := [(0, 10, 13, 13)]) (by decide +kernel) rfl ?_
  intro p e s m args below meth c s₁ B hml hv
  obtain ⟨⟨rfl, v1, v2, v3, v4, v5, v6⟩, hB⟩ := hv
  have hts := atoms_spec (ws := lt_w mL_rootLine [(0, 10, 13, 13)]) B.pre
  have hts' : ∀ w ∈ mm_WS, w.before ([.ref 0, .int x, .int y, .ref 54].map (mm_cv ad)).toArray s = true := fun w hw => hts w (List.mem_cons_of_mem _ hw)
  have hown : s.vm.findClass RL = some m.cls := findClass_of_methodNamed B.named
  have hx := B.exec
  have hb := B.bytes
  have hr := B.returns
  have hlocks := B.notSynchronized
  have htab : c.exceptionTable.toList = tableOf [(0, 10, 13, 13)] := vx_table (x := yL_rootLine) B (hts _ List.mem_cons_self)
  have hl := lv_entry ([.ref (ad 0), .int x, .int y, .ref (ad 54)]) (n := 5) (Nat.le_of_ble_eq_true rfl)
  rw [lg_entry_eq]
  change W _ _ _ _ _ _ _ _ _ _ _ _ _ _ _ (F0 m 0 (lg_sl ([.ref (ad 0), .int x, .int y, .ref (ad 54)]) ++ List.replicate (5 - (lg_sl ([.ref (ad 0), .int x, .int y, .ref (ad 54)])).length) Slot.unset).toArray [])
  generalize (lg_sl ([.ref (ad 0), .int x, .int y, .ref (ad 54)]) ++ List.replicate (5 - (lg_sl ([.ref (ad 0), .int x, .int y, .ref (ad 54)])).length) Slot.unset).toArray = lsA at hl ⊢
  have hl : lv_has lsA 5 [(0, .ref (ad 0)), (1, .int x), (2, .int y), (3, .ref (ad 54))] := hl
  have hS : va_S A s.heap s.heap [] := va_S.rf
  refine lv_aload_n hx hb dL_rootLine_0 rfl (lv_at hl 3 rfl) ?_
  refine lv_iconst (v := 0) hx hb dL_rootLine_1 (by decide) ?_
  refine lv_aload_n hx hb dL_rootLine_2 rfl (lv_at hl 0 rfl) ?_
  refine lv_iload_n hx hb dL_rootLine_3 rfl (lv_at hl 1 rfl) ?_
  refine lv_iload_n hx hb dL_rootLine_4 rfl (lv_at hl 2 rfl) ?_
  obtain ⟨c1, c2, c3, c4, c5, c6, c7⟩ := cs_L_19
  have cb := callB_of (R := (headSpec (lt_w mL_rootLine [(0, 10, 13, 13)]) (mm_rm 25 1 6)).room) (own := RL) (index := 19) (y := mX9_rootLine.1) (bytes := mX9_rootLine.2.1) (maxL := mX9_rootLine.2.2.1) (ret := mX9_rootLine.2.2.2) (ws := mm_w mX9_rootLine) (rm := mm_rm 24 1 6) (mc := 1) (ms := 6) 2 hts' (mm_good mX9_rootLine c4) rfl rfl rfl (hts' _ c5) (hts' _ c1) c6 ⟨Nat.le_of_ble_eq_true rfl, Nat.le_of_ble_eq_true rfl⟩
  refine vx_calli (A0 := A) (A1 := A) (AX := A) (vx_runV (b := ad 0) (As := [.int x, .int y]) (rest := [.int 0, .ref (ad 54)]) ⟨hx, hb, hml, hown, hts'⟩ (vt_X_rootLine (M := M) (σ := σ) hC l D ad cy A hfl) ⟨cb, hts' _ c2, hts' _ c3⟩ ⟨vt_blind, mm_recv (M := M) (b := 0) v3 v1 hb0 hM0 rfl, fun U hU hW => ⟨mm_pre (As := [.ref 0, .int x, .int y]) v3 v4 v5 v6 v1 v2 hS U hU hW, vt_B.warm hW hB⟩⟩ rfl rfl hl.1 rfl (lv_room (Nat.le_of_ble_eq_true rfl)) dL_rootLine_5 ⟨Nat.le_refl 1, Nat.le_refl 6⟩) hS (fun _ _ h => h) (fun _ h => h) (fun _ _ h => h) ?_ ?_
  · intro E ce q9 M' u H1 locs1 hu hvm hp hB1 hz1 hk1 hS1 hq hv hcl
    obtain ⟨rfl, b1, b2⟩ := hB1
    rw [hu] at b1
    refine vx_catch (own := RL) (name := vt_E) hown [] ⟨0, 10, 13, 13⟩ [] (by rw [htab]; rfl) (fun z hz => nomatch hz) rfl (by decide) (hts' _ lt_wk) (va_Nw.use rfl (hB (Cond.castable vt_E vt_E) (List.mem_cons_self))) hq hv hcl ?_
    refine lv_astore (lv' := [(4, .ref q9), (0, .ref (ad 0)), (1, .int x), (2, .int y), (3, .ref (ad 54))]) hx hb dL_rootLine_13 hl (by decide) rfl (fun ls hl => ?_)
    refine lv_iconst (v := 1) hx hb dL_rootLine_15 (by decide) ?_
    exact W.zret (v := 1) hx hb hr rfl (fun u2 hu2 hW2 => ⟨⟨some (.int 1), M', lt_thr h54 hp, rfl, by rw [hu2]; exact b1, b2⟩, hS1.F hu2⟩) hS1.2.2 dL_rootLine_16 hlocks
  · intro r M' u H1 locs1 hu hvm hp hB1 hz1 hk1 hS1
    obtain ⟨b1, b2⟩ := hB1
    rw [hu] at b1
    obtain ⟨h54', hP⟩ := lt_ok h54 hp
    refine lv_i2l hx hb dL_rootLine_8 rfl ?_
    refine va_last hx hb v3 b1 b2 hS1 54 1 (by rw [mm_ws_at (by decide), h54'.2]; rfl) rfl lt_in dL_rootLine_9 (fun H2 locs2 g1 g2 g3 => ?_)
    have e7 := mm_ws_up (ad := ad) (cy := cy) (M := M') (c := mm_aJ 1 (vp_updL f0 (Int32.toNatClampNeg 0) r.toInt64)) (k := 54) (by decide)
    simp only [mm_cc] at e7
    rw [e7] at g1 g2
    refine lv_goto (tgt := 17) hx hb dL_rootLine_10 (by decide) ?_
    refine lv_iconst (v := 0) hx hb dL_rootLine_17 (by decide) ?_
    exact W.zret (v := 0) hx hb hr rfl (fun u2 hu2 hW2 => ⟨⟨some (.int 0), _, hP, rfl, by rw [hu2]; exact g1, g2⟩, g3.F hu2⟩) g3.2.2 dL_rootLine_18 hlocks
