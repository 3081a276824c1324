/-! CONSTRUCTORS AS CALLS. cn_S: constructor y, called with one new cell of class ci, leaves the cells Lc, the new one first -/
def cn_Pc (D : va_G) (cy : Nat → ClassId) (A : Nat → Prop) (h0 ci : Nat) (fs : List Value) : Array Value → State → Prop := fun a U =>
  a = #[.ref h0] ∧ va_P D vwCl (cn_ws (fun _ => h0) cy [mm_aO ci fs]) U.heap ∧ va_D A (cn_ws (fun _ => h0) cy [mm_aO ci fs]) ∧ va_K D vwCl (mm_tys cy) U ∧ mm_NWs U ∧ mm_E A U U.heap ∧ ∀ q, U.heap.size ≤ q → A q
def cn_S (d : Nat) (y : mm_MR) (mc ms ci : Nat) (fs : List Value) (Lc : List mm_AC) : Prop :=
  ∀ (l : Launch) (D : va_G) (cy : Nat → ClassId) (A : Nat → Prop) (h0 : Nat), l.flags = flags0 → Met l y.1 (mm_w y) (mm_rm d mc ms) (cn_Pc D cy A h0 ci fs) (va_Qv (fun b : Nat → Nat => b 0 = h0) (fun b t => va_P D vwCl (cn_ws b cy Lc) t.heap ∧ va_D A (cn_ws b cy Lc)) A) mc ms A
theorem cn_blind {D : va_G} {cy : Nat → ClassId} {A : Nat → Prop} {h0 ci : Nat} {fs : List Value} : FrameBlind (cn_Pc D cy A h0 ci fs) := by
  intro a U g mk h
  obtain ⟨h1, h2, h3, h4, h5, h6, h7⟩ := h
  exact ⟨h1, h2, h3, va_K.moved (u := U) (U := U.calling g mk a) (Vm.Alike.refl U.vm) h4, mm_NWs.same (s := U) rfl h5, mm_E.moved (u := U) (U := U.calling g mk a) (Vm.Alike.refl U.vm) h6, h7⟩
/-- the end of a constructor -/
def cn_F (y : mm_MR) (t : mm_T) (Z : State → Prop) (h0 : Nat) (zf : Nat × Nat) (Lf : List mm_AC) : Prop :=
  ∀ pc, decode y.2.1 pc = .ok (.return_, 1) → cn_G y t Z 0 h0 zf pc [(0, .ref 0)] [] Lf
theorem cn_S.of {d : Nat} {y : mm_MR} {mc ms ci : Nat} {fs : List Value} {Lf : List mm_AC} (hp : plainName y.1.cls = true) (hret : y.2.2.2 = none) (hlen : 1 ≤ y.2.2.1) (hname : y.1.name = "<init>")
    (h : ∀ (t : mm_T) (Z : State → Prop) (h0 : Nat), mm_Cx y d none t → t.2.2.2.2.2.2.2.2.1.name = "<init>" → mc ≤ t.2.2.2.1.cells → ms ≤ t.2.2.2.1.slots → cn_F y t Z h0 (mc, ms) Lf → cn_G y t Z 0 h0 (0, 0) 0 [(0, .ref 0)] [] [mm_aO ci fs]) (hz : cn_zc (mm_aO ci fs) = true) : cn_S d y mc ms ci fs Lf := by
  intro l D cy A h0 hfl
  refine Met.ofW (cc := y.2.1) (maxL := y.2.2.1) (ret := none) hp (by rw [← hret]; rfl) ?_
  intro p e s m args below meth c s₁ B hml hv
  obtain ⟨rfl, v1, v2, v3, v4, v5, v6⟩ := hv
  have hts := atoms_spec (ws := mm_w y) B.pre
  have hown : s.vm.findClass y.1.cls = some m.cls := findClass_of_methodNamed B.named
  have hl := lv_entry ([.ref h0]) (n := y.2.2.1) hlen
  have hin : meth.name = "<init>" := (name_of_methodNamed B.named B.method).1.trans hname
  rw [lg_entry_eq]
  generalize (lg_sl ([.ref h0]) ++ List.replicate (y.2.2.1 - (lg_sl ([.ref h0])).length) Slot.unset).toArray = lsA at hl ⊢
  have hl : lv_has lsA y.2.2.1 [(0, .ref h0)] := hl
  have hx := B.exec
  have hb := B.bytes
  have hr := B.returns
  have hlocks := B.notSynchronized
  have K := h (p, l, e, (headSpec (mm_w y) (mm_rm d mc ms)).room, s, m, #[.ref h0], below, meth, c, D, (fun _ => h0), cy, A) (MQ below (va_Qv (fun b : Nat → Nat => b 0 = h0) (fun b t => va_P D vwCl (cn_ws b cy Lf) t.heap ∧ va_D A (cn_ws b cy Lf)) A) #[.ref h0] s mc ms A) h0
    ⟨hx, hb, hml, hr.trans hret.symm, hown, fun w hw => hts w (List.mem_cons_of_mem _ hw), hlocks, v3, v4, v5, v6, Nat.le_refl d, Nat.le_refl (40 * d), hfl, trivial⟩ hin (Nat.le_refl mc) (Nat.le_refl ms)
    (fun pc hd a H locs lsB ha hR hlB => by
      obtain ⟨r1, r2, r3⟩ := hR
      exact W.vret hx hb hr (fun u hu hW => ⟨⟨a, rfl, ha, by rw [hu]; exact r1, r2⟩, r3.F hu⟩) r3.2.2 hd hlocks)
  exact K (fun _ => h0) s.heap [] lsA rfl ⟨v1, v2, va_S.rf⟩ hl
/-- a value that stays, or the new object itself -/
def cn_w (n k : Nat) : Value → Bool
  | .ref i => decide (i ≤ n ∨ n + k ≤ i)
  | _ => true
theorem cn_w_x {n k i : Nat} {a b : Nat → Nat} (h2 : i ≤ n ∨ n + k ≤ i) (hk : 0 < k) (e : b 0 = a n) : cn_x n k a b i = a i := by
  by_cases e2 : i = n
  · subst e2
    have := cn_x_n (n := i) (a := a) (b := b) hk
    rw [Nat.add_zero] at this
    rw [this, e]
  · exact cn_x_o (by omega)
theorem cn_ws_cv {n k : Nat} {a b : Nat → Nat} {vs : List Value} (h : vs.all (cn_w n k) = true) (hk : 0 < k) (e : b 0 = a n) : vs.map (mm_cv (cn_x n k a b)) = vs.map (mm_cv a) := by
  refine List.map_congr_left fun v hv => ?_
  have h1 := List.all_eq_true.mp h v hv
  cases v <;> first | rfl | skip
  exact congrArg Value.ref (cn_w_x (of_decide_eq_true h1) hk e)
section CN3
variable {y y' : mm_MR} {d d' idx : Nat} {sc : mm_SC} {t : mm_T} {Z : State → Prop} {pi ph pc : Nat} {z zf : Nat × Nat} {lv : List (Nat × Value)} {st : List Value} {L L' Lc : List mm_AC}
theorem cn_objInit (C : mm_Cx y d sc t) (hd : decode y.2.1 pc = .ok (.invokespecial idx, 3)) (hw : Cond.methodLink y.1.cls idx objectInit ∈ mm_WS) (hi : Cond.instanceMethod objectInit ∈ mm_WS) (hc : Cond.code objectInit ⟨#[0xb1]⟩ 1 none ∈ mm_WS) (hdd : 1 ≤ d) {x : Nat} (h : cn_G y t Z pi ph z (pc + 3) lv [] L) : cn_G y t Z pi ph z pc lv [.ref x] L := by
  intro a H locs lsA ha hR hl
  have K := h a H locs lsA ha hR hl
  obtain ⟨p, l, e, R, s, m, args, below, meth, c, D, ad, cy, A⟩ := t
  obtain ⟨hx, hb, hml, hr, hown, hts, hlk, hK, hN, hE, hA, hd1, hd2, hfl, hsc⟩ := C
  refine W.objInit (rest := []) hx hb hown (hts _ hw) (hts _ hi) (hts _ hc) rfl (by rw [hml]; exact hl.1) rfl hd (by omega) (by show 0 + 0 + 12 ≤ _; omega) ?_
  exact W.eq (g2 := F0 m (pc + 3) lsA []) rfl K
theorem cn_after {D : va_G} {cy : Nat → ClassId} {A : Nat → Prop} {a : Nat → Nat} {p : Program} {l : Launch} {e : Env} {R : Room} {s : State} {m : MethodId} {args : Array Value} {below : List Frame} {meth : Method} {c : Code} {H : Heap} {locs : List Loc} {cells slots mc ms k ci : Nat} {fs rest st0 : List Value} {ls : Array Slot} {av : Array Value} {Q : State → Prop}
    (hr : va_Run p l e R s m args below meth c H locs cells slots mc ms (F0 m pc ls st0) rest (va_Qv (fun b : Nat → Nat => b 0 = a k) (fun b t => va_P D vwCl (cn_ws b cy Lc) t.heap ∧ va_D (va_A [(a k, mm_cc a cy (mm_aO ci fs))] H.size) (cn_ws b cy Lc)) (va_A [(a k, mm_cc a cy (mm_aO ci fs))] H.size) av) (va_A [(a k, mm_cc a cy (mm_aO ci fs))] H.size))
    (r1 : va_P D vwCl (cn_ws a cy (L ++ [mm_aO ci fs])) H) (r2 : va_D A (cn_ws a cy (L ++ [mm_aO ci fs]))) (r3 : va_S A s.heap H locs) (hA : ∀ q, s.heap.size ≤ q → A q) (hk : L.length = k) (hok : cn_ok k Lc.length L = true) (hin : Lc.all (cn_inC Lc.length) = true) (hnd : va_nd (List.range k) = true)
    (kk : ∀ (b : Nat → Nat) (H1 : Heap) (locs1 : List Loc), va_P D vwCl (cn_ws (cn_x k Lc.length a b) cy (L ++ Lc.map (cn_sc k))) H1 → va_D A (cn_ws (cn_x k Lc.length a b) cy (L ++ Lc.map (cn_sc k))) → va_S A s.heap H1 locs1 → b 0 = a k → W p l e R s m args below meth c H1 locs1 (cells + mc) (slots + ms) Q (F0 m (pc + 3) ls rest)) : W p l e R s m args below meth c H locs cells slots Q (F0 m pc ls st0) := by
  have hlen : (L ++ [mm_aO ci fs]).length = k + 1 := by simp [hk]
  have hatk : (cn_ws a cy (L ++ [mm_aO ci fs]))[k]? = some (a k, mm_cc a cy (mm_aO ci fs)) := by
    rw [cn_at (by omega)]
    have e1 : cn_m (L ++ [mm_aO ci fs]) (L.length + 0) = mm_aO ci fs := cn_m_r
    rw [Nat.add_zero, hk] at e1
    rw [e1]
  have hC : [k].map (fun i => (cn_ws a cy (L ++ [mm_aO ci fs]))[i]?) = [(a k, mm_cc a cy (mm_aO ci fs))].map some := by
    exact congrArg (fun x => [x]) hatk
  have hRr : (List.range k).map (fun i => (cn_ws a cy (L ++ [mm_aO ci fs]))[i]?) = (cn_ws a cy L).map some := by
    unfold cn_ws
    rw [List.map_map, hk]
    refine List.map_congr_left fun i hi => ?_
    have hi' := List.mem_range.mp hi
    show (cn_ws a cy (L ++ [mm_aO ci fs]))[i]? = some (a i, mm_cc a cy (cn_m L i))
    rw [cn_at (by omega), cn_m_l (by omega)]
  have hF := va_free (wc := [(a k, mm_cc a cy (mm_aO ci fs))]) r2 r3 hA [k] hC
  refine va_callv hr r3 (fun q _ h => hF q h) hF (fun b u H1 locs1 hu hvm hp hB hz1 hk1 hS1 => ?_)
  obtain ⟨b1, b2⟩ := hB
  rw [hu] at b1
  obtain ⟨g1, g2⟩ := va_join (wc := [(a k, mm_cc a cy (mm_aO ci fs))]) (wr := cn_ws a cy L) r1 r2 [k] (List.range k) hC hRr hnd (fun i hi hj => by
    have h1 := List.mem_range.mp hi
    have h2 := List.mem_singleton.mp hj
    omega) hk1 hF b1 b2
  rw [← cn_join hk rfl hok hin] at g1 g2
  exact kk b H1 locs1 g1 g2 hS1 hp
/-- the words of a constructor -/
def cn_CB (y : mm_MR) : Prop := Cond.code y.1 y.2.1 y.2.2.1 none ∈ mm_WS ∧ Cond.initialized y.1.cls ∈ mm_WS ∧ Cond.instanceMethod y.1 ∈ mm_WS ∧ y.1.name = "<init>" ∧ (y.1.cls ≠ "java/lang/invoke/MethodHandle" ∧ y.1.cls ≠ "java/lang/invoke/VarHandle" ∧ (parseMethodDescriptor y.1.desc).map (fun d => d.parameters.length) = some 0) ∧ y.2.2.1 = 1 ∧ y.2.2.2 = none
def cn_CN (own : String) (idx : Nat) (y : mm_MR) : Prop := (∃ host, Cond.methodLinkNest own idx y.1 host ∈ mm_NW) ∧ cn_CB y
def cn_CL (own : String) (idx : Nat) (y : mm_MR) : Prop := Cond.methodLink own idx y.1 ∈ mm_WS ∧ cn_CB y
theorem cn_pre {D : va_G} {cy : Nat → ClassId} {A : Nat → Prop} {a : Nat → Nat} {s : State} {H : Heap} {locs : List Loc} {k ci : Nat} {fs : List Value} (hK : va_K D vwCl (mm_tys cy) s) (hN : mm_NWs s) (hE : mm_E A s s.heap) (hA : ∀ q, s.heap.size ≤ q → A q) (hk : L.length = k) (hz : cn_zc (mm_aO ci fs) = true) (r1 : va_P D vwCl (cn_ws a cy (L ++ [mm_aO ci fs])) H) (r2 : va_D A (cn_ws a cy (L ++ [mm_aO ci fs]))) (r3 : va_S A s.heap H locs) : ∀ U : State, U.heap = H → s.WarmedH U.vm → cn_Pc D cy (va_A [(a k, mm_cc a cy (mm_aO ci fs))] H.size) (a k) ci fs #[.ref (a k)] U := by
  have hlen : (L ++ [mm_aO ci fs]).length = k + 1 := by simp [hk]
  have hatk : (cn_ws a cy (L ++ [mm_aO ci fs]))[k]? = some (a k, mm_cc a cy (mm_aO ci fs)) := by
    rw [cn_at (by omega)]
    have e1 : cn_m (L ++ [mm_aO ci fs]) (L.length + 0) = mm_aO ci fs := cn_m_r
    rw [Nat.add_zero, hk] at e1
    rw [e1]
  have hC : [k].map (fun i => (cn_ws a cy (L ++ [mm_aO ci fs]))[i]?) = [(a k, mm_cc a cy (mm_aO ci fs))].map some := by
    exact congrArg (fun x => [x]) hatk
  have hF := va_free (wc := [(a k, mm_cc a cy (mm_aO ci fs))]) r2 r3 hA [k] hC
  have e2 : cn_ws (fun _ => a k) cy [mm_aO ci fs] = [(a k, mm_cc a cy (mm_aO ci fs))] := by
    show [(a k, mm_cc (fun _ => a k) cy (mm_aO ci fs))] = _
    rw [cn_zcc (b := a) hz]
  intro U hU hW
  refine ⟨rfl, ?_, ?_, va_K.moved hW.alike hK, mm_NWs.warm hW hN, ?_, fun q h => Or.inr (by rw [← hU]; exact h)⟩
  · rw [hU, e2]
    exact r1.sub [k] (by show ([k].filterMap _) = _; simp [hatk])
  · rw [e2]
    exact (r2.sub [k] (by rfl) hC).self
  · rw [hU]
    have E1 := mm_E.moved hW.alike (mm_E.kept hE (fun a h1 h2 => r3.2.1 a h1 h2))
    exact ⟨vx_Zq.narrow E1.1 hF, vx_Zq.narrow E1.2 hF⟩
theorem cn_callN {mc ms k ci : Nat} {fs : List Value} (C : mm_Cx y d sc t) (hc : zf.1 ≤ t.2.2.2.1.cells) (hs : zf.2 ≤ t.2.2.2.1.slots) (hd : decode y.2.1 pc = .ok (.invokespecial idx, 3)) (hw : cn_CN y.1.cls idx y') (hS : cn_S d' y' mc ms ci fs Lc) (hz : cn_zc (mm_aO ci fs) = true) (hdd : d' + 1 ≤ d) (hst8 : (st.map fun v => v.category).sum ≤ 8) (h1 : z.1 + mc ≤ zf.1) (h2 : z.2 + ms ≤ zf.2) (hq : cn_st k Lc.length pi lv [] L = true) (hpos : 0 < Lc.length) (hst : st.all (cn_w k Lc.length) = true) (hin : Lc.all (cn_inC Lc.length) = true) (hnd : va_nd (List.range k) = true) (h : cn_G y t Z pi ph (z.1 + mc, z.2 + ms) (pc + 3) lv st (L ++ Lc.map (cn_sc k))) : cn_G y t Z pi ph z pc lv (.ref k :: st) (L ++ [mm_aO ci fs]) := by
  obtain ⟨q1, q2, q3, q4, q5⟩ := cn_st_of hq
  intro a H locs lsA ha hR hl
  have K := fun b H1 locs1 => h (cn_x k Lc.length a b) H1 locs1 lsA (by rw [cn_x_o q2]; exact ha)
  obtain ⟨p, l, e, R, s, m, args, below, meth, c, D, ad, cy, A⟩ := t
  obtain ⟨hx, hb, hml, hr, hown, hts, hlk, hK, hN, hE, hA, hd1, hd2, hfl, hsc⟩ := C
  obtain ⟨r1, r2, r3⟩ := hR
  obtain ⟨⟨host, c1⟩, c2, c3, c4, c5, c6, c7, c8⟩ := hw
  have hrest' : ((st.map (mm_cv a)).map fun v => v.category).sum ≤ 8 := by
    rw [List.map_map]
    rw [show ((fun v : Value => v.category) ∘ mm_cv a) = fun v => v.category from funext fun v => mm_cat v]
    exact hst8
  have cb : va_CN R s args y.1.cls idx y'.1 host y'.2.1 y'.2.2.1 none (mm_w y') (mm_rm d' mc ms) mc ms 0 := va_cnB 0 hts (mm_good y' (by rw [c8]; exact c2)) (by show mm_w y' = _ :: mm_WS; unfold mm_w; rw [c8]) rfl rfl (hN _ c1) (hts _ c3) c6 ⟨Nat.le_trans hdd hd1, by show 8 + (y'.2.2.1 + 11) + 40 * d' ≤ R.locals; rw [c7]; omega⟩
  refine cn_after (D := D) (cy := cy) (a := a) (k := k) (ci := ci) (fs := fs) (mc := mc) (ms := ms) (rest := st.map (mm_cv a)) (va_runIN (b := a k) (As := []) ⟨hx, hb, hml, hown, hts⟩ (hS l D cy (va_A [(a k, mm_cc a cy (mm_aO ci fs))] H.size) (a k) hfl) ⟨cb, c5, hts _ c4⟩ ⟨cn_blind, cn_pre hK hN hE hA q1 hz r1 r2 r3⟩ rfl rfl hl.1 rfl (lv_room hrest') hd ⟨Nat.le_trans h1 hc, Nat.le_trans h2 hs⟩) r1 r2 r3 hA q1 q3 hin hnd (fun b H1 locs1 g1 g2 g3 g4 => ?_)
  have K2 := K b H1 locs1 ⟨g1, g2, g3⟩ (by rw [cn_lvx q4]; exact hl)
  rw [cn_ws_cv hst hpos g4] at K2
  exact K2
theorem cn_callL {mc ms k ci : Nat} {fs : List Value} (C : mm_Cx y d sc t) (hc : zf.1 ≤ t.2.2.2.1.cells) (hs : zf.2 ≤ t.2.2.2.1.slots) (hd : decode y.2.1 pc = .ok (.invokespecial idx, 3)) (hw : cn_CL y.1.cls idx y') (hS : cn_S d' y' mc ms ci fs Lc) (hz : cn_zc (mm_aO ci fs) = true) (hdd : d' + 1 ≤ d) (hst8 : (st.map fun v => v.category).sum ≤ 8) (h1 : z.1 + mc ≤ zf.1) (h2 : z.2 + ms ≤ zf.2) (hq : cn_st k Lc.length pi lv [] L = true) (hpos : 0 < Lc.length) (hst : st.all (cn_w k Lc.length) = true) (hin : Lc.all (cn_inC Lc.length) = true) (hnd : va_nd (List.range k) = true) (h : cn_G y t Z pi ph (z.1 + mc, z.2 + ms) (pc + 3) lv st (L ++ Lc.map (cn_sc k))) : cn_G y t Z pi ph z pc lv (.ref k :: st) (L ++ [mm_aO ci fs]) := by
  obtain ⟨q1, q2, q3, q4, q5⟩ := cn_st_of hq
  intro a H locs lsA ha hR hl
  have K := fun b H1 locs1 => h (cn_x k Lc.length a b) H1 locs1 lsA (by rw [cn_x_o q2]; exact ha)
  obtain ⟨p, l, e, R, s, m, args, below, meth, c, D, ad, cy, A⟩ := t
  obtain ⟨hx, hb, hml, hr, hown, hts, hlk, hK, hN, hE, hA, hd1, hd2, hfl, hsc⟩ := C
  obtain ⟨r1, r2, r3⟩ := hR
  obtain ⟨c1, c2, c3, c4, c5, c6, c7, c8⟩ := hw
  have hrest' : ((st.map (mm_cv a)).map fun v => v.category).sum ≤ 8 := by
    rw [List.map_map]
    rw [show ((fun v : Value => v.category) ∘ mm_cv a) = fun v => v.category from funext fun v => mm_cat v]
    exact hst8
  have cb := cwI (R := R) (own := y.1.cls) (index := idx) (y := y'.1) (bytes := y'.2.1) (maxL := y'.2.2.1) (ws := mm_w y') (rm := mm_rm d' mc ms) (mc := mc) (ms := ms) 0 hts (mm_good y' (by rw [c8]; exact c2)) (by show mm_w y' = _ :: mm_WS; unfold mm_w; rw [c8]) rfl rfl (hts _ c3) (hts _ c1) (hts _ c4) c5 c6 ⟨Nat.le_trans hdd hd1, by show 8 + (y'.2.2.1 + 11) + 40 * d' ≤ R.locals; rw [c7]; omega⟩
  refine cn_after (D := D) (cy := cy) (a := a) (k := k) (ci := ci) (fs := fs) (mc := mc) (ms := ms) (rest := st.map (mm_cv a)) (va_runI (b := a k) (As := []) ⟨hx, hb, hml, hown, hts⟩ (hS l D cy (va_A [(a k, mm_cc a cy (mm_aO ci fs))] H.size) (a k) hfl) cb ⟨cn_blind, cn_pre hK hN hE hA q1 hz r1 r2 r3⟩ rfl rfl hl.1 rfl (lv_room hrest') hd ⟨Nat.le_trans h1 hc, Nat.le_trans h2 hs⟩) r1 r2 r3 hA q1 q3 hin hnd (fun b H1 locs1 g1 g2 g3 g4 => ?_)
  have K2 := K b H1 locs1 ⟨g1, g2, g3⟩ (by rw [cn_lvx q4]; exact hl)
  rw [cn_ws_cv hst hpos g4] at K2
  exact K2
end CN3
