theorem vt_new {c : ByteArray} {p0 kk sz : Nat} (hs : c.size = sz) (h : ((List.range sz).all fun pc => match decode c pc with
  | .ok (.new k, 3) => decide (pc = p0 ∧ k = kk)
  | _ => true) = true) {pc k : Nat} (e : decode c pc = .ok (.new k, 3)) : pc = p0 ∧ k = kk := by
  rcases Nat.lt_or_ge pc c.size with q | q
  · have h1 := List.all_eq_true.mp h pc (List.mem_range.mpr (by omega))
    rw [e] at h1
    exact of_decide_eq_true h1
  · exact absurd e (vt_oob q)
/-- what is needed of a throw at p0 -/
def vt_at (y : mm_MR) (p0 : Nat) : Prop := (∀ pc k, decode y.2.1 pc = .ok (.new k, 3) → pc = p0 ∧ k = 130) ∧ decode y.2.1 (p0 + 3) = .ok (.dup, 1) ∧ decode y.2.1 (p0 + 4) = .ok (.invokespecial 132, 3) ∧ decode y.2.1 (p0 + 7) = .ok (.athrow, 1) ∧ y.1.cls = RX9
theorem vt_near : vt_at mX9_near 11 := ⟨fun _ _ e => vt_new (sz := 28) (by decide +kernel) (by decide +kernel) e, dX9_near_14, dX9_near_15, dX9_near_18, rfl⟩
theorem vt_line : vt_at mX9_line 22 := ⟨fun _ _ e => vt_new (sz := 50) (by decide +kernel) (by decide +kernel) e, dX9_line_25, dX9_line_26, dX9_line_29, rfl⟩
theorem vt_rootLine : vt_at mX9_rootLine 41 := ⟨fun _ _ e => vt_new (sz := 59) (by decide +kernel) (by decide +kernel) e, dX9_rootLine_44, dX9_rootLine_45, dX9_rootLine_48, rfl⟩
/-! A METHOD THAT ANSWERS AN INT OR THROWS -/
abbrev vt_E : String := "java/util/NoSuchElementException"
def vt_Pc (D : va_G) (ad : Nat → Nat) (cy : Nat → ClassId) (A : Nat → Prop) (av : List Value) (M : mm_Mem) : Array Value → State → Prop := fun a U => mm_Pc D ad cy A av M a U ∧ vt_B U
theorem vt_blind {D : va_G} {ad : Nat → Nat} {cy : Nat → ClassId} {A : Nat → Prop} {av : List Value} {M : mm_Mem} : FrameBlind (vt_Pc D ad cy A av M) := fun a U g mk h => ⟨mm_blind a U g mk h.1, vt_B.same (s := U) rfl h.2⟩
def vt_W (D : va_G) (ad : Nat → Nat) (cy : Nat → ClassId) (A : Nat → Prop) (M : mm_Mem) (t : State) : Prop := va_P D vwCl (mm_ws ad cy M) t.heap ∧ va_D A (mm_ws ad cy M)
def vt_XS (d : Nat) (y : mm_MR) (av : List Value) (M : mm_Mem) (P : Option Value → mm_Mem → Prop) : Prop :=
  ∀ (l : Launch) (D : va_G) (ad : Nat → Nat) (cy : Nat → ClassId) (A : Nat → Prop), l.flags = flags0 → vx_Met l y.1 (mm_w y) (mm_rm d 1 6) (vt_Pc D ad cy A av M) (va_Qi (fun (r : Int32) (M' : mm_Mem) => P (some (.int r)) M') (vt_W D ad cy A) A) (vx_X (fun M' : mm_Mem => P mm_thrown M') (fun E M' t => E = vt_E ∧ vt_W D ad cy A M' t) A) 1 6 A
theorem vt_st {l : Launch} (h : l.flags = flags0) : l.stackTraces = false := by
  unfold Launch.stackTraces
  rw [h]
  decide +kernel
theorem vt_wk : Cond.classLink RX9 130 vt_E ∈ mm_WS ∧ Cond.initialized vt_E ∈ mm_WS := ⟨mm_inW 924 (by decide +kernel) (by decide +kernel), mm_inW 94 (by decide +kernel) (by decide +kernel)⟩
theorem vt_XS.of {d d0 p0 : Nat} {y : mm_MR} {av : List Value} {M : mm_Mem} {P : Option Value → mm_Mem → Prop} (hp : plainName y.1.cls = true) (hav : av.all mm_c1 = true) (hlen : av.length ≤ y.2.2.1) (hret : y.2.2.2 = some .int) (ht : vt_at y p0) (hP : ∀ r M', P r M' → r = mm_thrown ∨ ∃ x, r = some (.int x)) (hd0 : d0 ≤ d) (hd6 : 6 ≤ d)
    (h : mm_X y d0 none (0, 0) 0 (av ++ List.replicate (y.2.2.1 - av.length) .null) [] M P) : vt_XS d y av M P := by
  intro l D ad cy A hfl
  have hc : ∀ v ∈ av, v.category = 1 := fun v hv => (mm_c1_of (List.all_eq_true.mp hav v hv)).2
  refine vx_ofW (cc := y.2.1) (maxL := y.2.2.1) (ret := y.2.2.2) hp rfl ?_
  intro p e s m args below meth c s₁ B hml hex hv
  obtain ⟨⟨rfl, v1, v2, v3, v4, v5, v6⟩, hB⟩ := hv
  have hts := atoms_spec (ws := mm_w y) B.pre
  have hts' : ∀ w ∈ mm_WS, w.before (av.map (mm_cv ad)).toArray s = true := fun w hw => hts w (List.mem_cons_of_mem _ hw)
  have hown : s.vm.findClass y.1.cls = some m.cls := findClass_of_methodNamed B.named
  have hl := lv_entry (av.map (mm_cv ad)) (n := y.2.2.1) (by rw [mm_lg av hc]; simpa using hlen)
  rw [lg_entry_eq]
  generalize (lg_sl (av.map (mm_cv ad)) ++ List.replicate (y.2.2.1 - (lg_sl (av.map (mm_cv ad))).length) Slot.unset).toArray = lsA at hl ⊢
  have hx := B.exec
  have hb := B.bytes
  have hr := B.returns
  have hlocks := B.notSynchronized
  refine vt_run h (t := (p, l, e, (headSpec (mm_w y) (mm_rm d 1 6)).room, s, m, (av.map (mm_cv ad)).toArray, below, meth, c, D, ad, cy, A))
    ⟨hx, hb, hml, hr, hown, hts', hlocks, v3, v4, v5, v6, hd0, by show 40 * d0 ≤ 40 * d; omega, hfl, trivial⟩ ?_ (H := s.heap) (locs := []) (lsA := lsA) ⟨v1, v2, va_S.rf⟩ ⟨?_, _, hl, ?_⟩
  · intro r M' H locs pc lsB hq hR hsz hend
    obtain ⟨r1, r2, r3⟩ := hR
    rcases hP r M' hq with e1 | ⟨x, e1⟩
    · subst e1
      obtain ⟨k, hk⟩ := hend
      obtain ⟨t1, t2, t3, t4, t5⟩ := ht
      obtain ⟨e2, e3⟩ := t1 pc k hk
      subst e2
      subst e3
      refine vx_throw0 (names := vt_names) (cls := vt_E) (own := RX9) (ik := 130) (ic := 132) (A := A) hx hb (vt_st hfl) (by rw [← t5]; exact hown) (by decide +kernel) (List.all_eq_true.mp (by decide +kernel)) (hts' _ vt_wk.1) (hts' _ vt_wk.2) (vt_use hts' hB) vt_h2 v5.1 v5.2 r3 (by rw [hsz, hml]) hk t2 t3 t4 (fun x hx9 => absurd hx9 (fun h9 => hex x h9)) (by show 2 + 3 < d; omega) (by show 0 + (13 * (2 + 1) + 42) ≤ 40 * d; omega) (Nat.le_refl 1) (Nat.le_refl 6) hlocks (fun t _ hz1 hk1 => ⟨M', hq, ⟨rfl, r1.kept (fun k q hq9 => hk1 q.1 ((r1 k q hq9).lt)), r2⟩, Nat.le_trans r3.1 hz1, fun q h1 h2 => (hk1 q (Nat.lt_of_lt_of_le h1 r3.1)).trans (r3.2.1 q h1 h2)⟩) r3.2.2 (Nat.le_refl 1) (Nat.le_refl 6)
    · subst e1
      obtain ⟨hd, ty, hy, hn⟩ := hend
      refine W.widen (k := 1) (n := 6) (Nat.zero_le 1) (Nat.zero_le 6) ?_
      refine vx_ret ?_
      exact W.zret hx hb (hr.trans hy) hn (fun t ht9 _ => ⟨⟨x, M', rfl, hq, by rw [ht9]; exact r1, r2⟩, r3.F ht9⟩) r3.2.2 hd hlocks
  · simp only [List.length_append, List.length_replicate]
    omega
  · intro i v hi hvn
    by_cases hil : i < av.length
    · rw [List.getElem?_append_left hil] at hi
      have := mm_args (ad := ad) av 0 hc i v hi
      rwa [Nat.zero_add] at this
    · rw [List.getElem?_append_right (by omega), List.getElem?_replicate] at hi
      split at hi
      · cases hi
        exact absurd rfl hvn
      · cases hi
