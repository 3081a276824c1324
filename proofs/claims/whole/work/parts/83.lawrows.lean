theorem lx_weak {y : mm_MR} {d : Nat} {sc : mm_SC} {z : Nat × Nat} {pc : Nat} {ls ls' st : List Value} {M : mm_Mem} {Q : Option Value → mm_Mem → Prop} (h : lx_X y d sc z pc ls' st M Q) (hw : mm_wk ls ls') : lx_X y d sc z pc ls st M Q := by
  intro t Z C F H locs lsA hz1 hz2 hR hL
  refine h t Z C F H locs lsA hz1 hz2 hR ?_
  obtain ⟨hn, l, h1, h2⟩ := hL
  exact ⟨(mm_wk_len hw).symm.trans hn, l, h1, fun i v hi hv => h2 i v (mm_wk_at hw i v hi hv) hv⟩
/-- the law as a method -/
abbrev mL_law : mm_MR := (yL_law, cL_law, 7, ret)
def lt_C (own : String) (idx : Nat) (y : mm_MR) (hh : List (Nat × Nat × Nat × Nat)) (n : Nat) : Prop := Cond.methodLink own idx y.1 ∈ mm_WS ∧ Cond.static y.1 ∈ mm_WS ∧ Cond.codeWith y.1 y.2.1 y.2.2.1 y.2.2.2 hh ∈ mm_WS ∧ Cond.initialized y.1.cls ∈ mm_WS ∧ (y.1.cls ≠ "java/lang/invoke/MethodHandle" ∧ y.1.cls ≠ "java/lang/invoke/VarHandle" ∧ (parseMethodDescriptor y.1.desc).map (fun d => d.parameters.length) = some n) ∧ y.2.2.1 ≤ 21
theorem lt_good (y : mm_MR) (hh : List (Nat × Nat × Nat × Nat)) (hc : Cond.codeWith y.1 y.2.1 y.2.2.1 y.2.2.2 hh ∈ mm_WS) : GoodIn mm_WS (lt_w y hh) := by
  have h : ∀ w ∈ mm_WS, w ∈ mm_WS ∧ ((w.onTables && w.keeps) = true ∨ ∃ ty, w = .arrayClass ty) := fun w hw => ⟨hw, good_of_word (List.mem_filter.mp hw).2⟩
  intro w hw
  rcases List.mem_cons.mp hw with e | e
  · subst e
    exact h _ hc
  · exact h _ e
theorem lx_invSW {y y' : mm_MR} {d d' n idx L : Nat} {xs : Nat → Int32} {z : Nat × Nat} {pc : Nat} {ls st rest As : List Value} {M : mm_Mem} {Q P : Option Value → mm_Mem → Prop} {hh : List (Nat × Nat × Nat × Nat)} (hd : decode y.2.1 pc = .ok (.invokestatic idx, 3)) (hC : lt_C y.1.cls idx y' hh n) (hs : lt_S d' y' hh As M P) (hn : As.length = n) (hst : st = As.reverse ++ rest) (hrest : (rest.map fun v => v.category).sum ≤ 8) (hdd : d' + 1 ≤ d) (hzz : z.1 + 1 ≤ 601024 ∧ z.2 + 6 ≤ 7293034) (h : ∀ r M', P r M' → lx_X y d (some (L, xs)) (z.1 + 1, z.2 + 6) (pc + 3) ls (r.toList ++ rest) M' Q) : lx_X y d (some (L, xs)) z pc ls st M Q := by
  subst hst
  intro t Z C F H locs lsA hz1 hz2 hR hL
  obtain ⟨p, l, e, R, s, m, args, below, meth, c, D, ad, cy, A⟩ := t
  obtain ⟨⟨hx, hb, hml, hr, hown, hts, hlk, hK, hN, hE, hA, hd1, hd2, hfl, hsc⟩, hvt⟩ := C
  obtain ⟨r1, r2, r3⟩ := hR
  obtain ⟨c1, c2, c3, c4, c5, c6⟩ := hC
  obtain ⟨s1, s2, s3, s4⟩ := id hsc
  have hRc : R.cells = 601024 := by rw [s4]; rfl
  have hRs : R.slots = 7293034 := by rw [s4]; rfl
  have cb : vx_CSW R s args y.1.cls idx y'.1 y'.2.1 y'.2.2.1 y'.2.2.2 hh (lt_w y' hh) (mm_rm d' 1 6) 1 6 n :=
    ⟨⟨rfl, rfl, Nat.le_trans hdd hd1, by show 8 + (y'.2.2.1 + 11) + 40 * d' ≤ R.locals; omega, pay_in hts (lt_good y' hh c3), List.mem_cons_self⟩, hts _ c3, hts _ c4, ⟨c5.1, c5.2.1⟩, fun sig h9 => by
      have h2 := c5.2.2
      rw [h9] at h2
      exact (Option.some.inj h2).symm, hts _ c1, hts _ c2⟩
  have hrest' : ((rest.map (mm_cv ad)).map fun v => v.category).sum ≤ 8 := by
    rw [List.map_map]
    rw [show ((fun v : Value => v.category) ∘ mm_cv ad) = fun v => v.category from funext fun v => mm_cat v]
    exact hrest
  refine mm_run (D := D) (ad := ad) (cy := cy) (P := P) (mc := 1) (ms := 6) (rest := rest.map (mm_cv ad)) (vx_runSW (As := As.map (mm_cv ad)) ⟨hx, hb, hml, hown, hts⟩ (hs l D ad cy A hfl) cb ⟨vt_blind, fun U hU hW => ⟨mm_pre (As := As) hK hN hE hA r1 r2 r3 U hU hW, vt_B.warm hW hvt⟩⟩ rfl (by rw [List.length_map]; exact hn) (by obtain ⟨-, l9, hv, -⟩ := hL; exact hv.1) (by simp [List.map_reverse]) (lv_room hrest') hd ⟨by rw [hRc]; exact hzz.1, by rw [hRs]; exact hzz.2⟩) r3 (fun r M' H1 locs1 hp q1 q2 q3 => ?_)
  have k := h r M' hp (p, l, e, R, s, m, args, below, meth, c, D, ad, cy, A) Z ⟨⟨hx, hb, hml, hr, hown, hts, hlk, hK, hN, hE, hA, hd1, hd2, hfl, hsc⟩, hvt⟩ F H1 locs1 lsA (by show z.1 + 1 ≤ R.cells; rw [hRc]; exact hzz.1) (by show z.2 + 6 ≤ R.slots; rw [hRs]; exact hzz.2) ⟨q1, q2, q3⟩ hL
  have e9 : (r.toList ++ rest).map (mm_cv ad) = (r.map (mm_cv ad)).toList ++ rest.map (mm_cv ad) := by cases r <;> simp
  dsimp only at k
  rw [e9] at k
  exact k
/-! BOTH SIDES AT ONCE -/
def lq (M : mm_Mem) (σ : g_st) : Prop := CS M σ ∧ MS M σ ∧ ∃ f, mm_at M 54 (mm_aJ 1 f)
theorem MT.thr {M : mm_Mem} {th : Int32} {σ : g_st} (h : MT M th σ) : mm_fd M 31 10 0 (.int th) := by
  obtain ⟨n, T, L, K, t, f, fk⟩ := σ
  obtain ⟨⟨F, w, m1, m2, -⟩, -⟩ := h
  have := m1.2.1 0 (by decide)
  rw [m2] at this
  exact this
theorem MS.rc0 {M : mm_Mem} {σ : g_st} (h : MS M σ) : mm_rc M 31 10 := by
  obtain ⟨th, h⟩ := h
  exact h.thr.rc
theorem lq.C {M M1 : mm_Mem} {σ : g_st} (h : lq M σ) (hf : fC M M1) : MS M1 σ ∧ ∃ f, mm_at M1 54 (mm_aJ 1 f) := by
  obtain ⟨h1, ⟨th, h2⟩, f, h3⟩ := h
  exact ⟨⟨th, h2.eq fun j hj _ => hf j hj⟩, f, h3.1, (hf 54 (by decide)).trans h3.2⟩
theorem lq.M {M1 M2 : mm_Mem} {σ' : g_st} (h1 : CS M1 σ') (h54 : ∃ f, mm_at M1 54 (mm_aJ 1 f)) (h2 : MS M2 σ') (hf : fM M1 M2) : lq M2 σ' := by
  obtain ⟨f, h3⟩ := h54
  exact ⟨h1.eq fun j hj => hf j (Or.inl hj), h2, f, h3.1, (hf 54 (Or.inr (by decide))).trans h3.2⟩
theorem lw_in {i L k : Nat} (hi : i + 6 ≤ L) (hL : L ≤ 3072) (hk : k < 6) : vp_in (nI i + nI k) L := by
  rw [nI_add]
  exact vp_in_nI (by omega) (by omega)
theorem lw_i0 {i L : Nat} (hi : i + 6 ≤ L) (hL : L ≤ 3072) : vp_in (nI i) L := vp_in_nI (by omega) (by omega)
theorem lw_i1 {i L : Nat} (hi : i + 6 ≤ L) (hL : L ≤ 3072) : vp_in (nI i + 1) L := lw_in (k := 1) hi hL (by decide)
theorem lw_i2 {i L : Nat} (hi : i + 6 ≤ L) (hL : L ≤ 3072) : vp_in (nI i + 2) L := lw_in (k := 2) hi hL (by decide)
theorem lw_i3 {i L : Nat} (hi : i + 6 ≤ L) (hL : L ≤ 3072) : vp_in (nI i + 3) L := lw_in (k := 3) hi hL (by decide)
theorem lw_i4 {i L : Nat} (hi : i + 6 ≤ L) (hL : L ≤ 3072) : vp_in (nI i + 4) L := lw_in (k := 4) hi hL (by decide)
theorem lw_i5 {i L : Nat} (hi : i + 6 ≤ L) (hL : L ≤ 3072) : vp_in (nI i + 5) L := lw_in (k := 5) hi hL (by decide)
theorem lw_cmp {i L : Nat} (hL : L ≤ 3072) (hi : i ≤ L) : Int32.ofNat L - 6 < nI i ↔ L < i + 6 := by
  have e2 : (Int32.ofNat L).toInt = (L : Int) := nI_toInt (n := L) (by omega)
  have e3 : (nI i).toInt = (i : Int) := nI_toInt (by omega)
  have e4 : (Int32.ofNat L - 6).toInt = (L : Int) - 6 := by
    rw [Int32.toInt_sub, e2, show (6 : Int32).toInt = 6 from rfl, Int.bmod_eq_of_le (by omega) (by omega)]
  rw [Int32.lt_iff_toInt_lt, e3, e4]
  omega
abbrev lw_ls (i : Nat) : List Value := [.ref mm_scr, .ref 0, .ref 31, .ref 54, .int (nI i), .null, .null]
theorem lw_cmp0 {a b : Int64} (h : a = b) : lg_cmp a b = 0 := by
  subst h
  simp [lg_cmp]
