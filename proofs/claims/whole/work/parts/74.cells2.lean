/-! NEW CELLS, FIELDS THAT ARE SET ONCE, CONSTRUCTORS -/
section CN2
variable {y y' : mm_MR} {d d' idx : Nat} {sc : mm_SC} {t : mm_T} {Z : State → Prop} {pi ph pc : Nat} {z zf : Nat × Nat} {lv : List (Nat × Value)} {st : List Value} {L L' : List mm_AC}
theorem cn_lvx {n k : Nat} {a b : Nat → Nat} (h : lv.all (fun q => cn_v n k q.2) = true) : cn_lv (cn_x n k a b) lv = cn_lv a lv := by
  unfold cn_lv
  refine List.map_congr_left fun q hq => ?_
  rw [cn_cv (List.all_eq_true.mp h q hq)]
/-- what must stay when k cells come behind n -/
def cn_st (n k pi : Nat) (lv : List (Nat × Value)) (st : List Value) (L : List mm_AC) : Bool := decide (L.length = n) && (decide (pi < n ∨ n + k ≤ pi) && (cn_ok n k L && (lv.all (fun q => cn_v n k q.2) && st.all (cn_v n k))))
theorem cn_st_of {n k : Nat} (h : cn_st n k pi lv st L = true) : L.length = n ∧ (pi < n ∨ n + k ≤ pi) ∧ cn_ok n k L = true ∧ lv.all (fun q => cn_v n k q.2) = true ∧ st.all (cn_v n k) = true := by
  simpa only [cn_st, Bool.and_eq_true, decide_eq_true_eq] using h
theorem cn_newI {n : Int32} {N k : Nat} (C : mm_Cx y d sc t) (hc : zf.1 ≤ t.2.2.2.1.cells) (hs : zf.2 ≤ t.2.2.2.1.slots) (hd : decode y.2.1 pc = .ok (.newarray .int, 2)) (hw : Cond.arrayClass .int ∈ mm_WS) (hn : ¬ n < 0) (hN : n.toNatClampNeg = N) (hN2 : N ≤ 100000) (h1 : z.1 + 1 ≤ zf.1) (h2 : z.2 + N ≤ zf.2) (hq : cn_st k 1 pi lv st L = true) (h : cn_G y t Z pi ph (z.1 + 1, z.2 + N) (pc + 2) lv (.ref k :: st) (L ++ [mm_aI N fun _ => 0])) : cn_G y t Z pi ph z pc lv (.int n :: st) L := by
  obtain ⟨q1, q2, q3, q4, q5⟩ := cn_st_of hq
  intro a H locs lsA ha hR hl
  have K := fun q H1 => h (cn_x k 1 a fun _ => q) H1 locs lsA (by rw [cn_x_o q2]; exact ha)
  obtain ⟨p, l, e, R, s, m, args, below, meth, c, D, ad, cy, A⟩ := t
  obtain ⟨hx, hb, hml, hr, hown, hts, hlk, hK, hN', hE, hA, hd1, hd2, hfl, hsc⟩ := C
  obtain ⟨r1, r2, r3⟩ := hR
  refine va_newa (a0 := (N, .inl fun _ => 0)) (N' := N) hx hb (atype := .int) (hts _ hw) rfl hK r1 r2 r3 hA (fun _ => rfl) hn hN (by show N * 4 ≤ _; omega) (Nat.le_trans h1 hc) (Nat.le_trans h2 hs) hd (fun q cA H1 g1 g2 g3 g4 => ?_)
  have e9 : cA = cy 0 := Option.some.inj ((g1.2 3 (cA, .int) rfl).2.symm.trans (hK.2 0 (cy 0, .int) rfl).2)
  subst e9
  have e1 : cn_ws (cn_x k 1 a fun _ => q) cy (L ++ [mm_aI N fun _ => 0]) = cn_ws a cy L ++ [(q, .inl (cy 0, N, .inl fun _ => 0))] := cn_push q1 q3 rfl
  have K2 := K q H1 ⟨by rw [e1]; exact g2, by rw [e1]; exact g3, g4⟩ (by rw [cn_lvx q4]; exact hl)
  have e2 : (Value.ref k :: st).map (mm_cv (cn_x k 1 a fun _ => q)) = .ref q :: st.map (mm_cv a) := by
    rw [List.map_cons, cn_cvs q5]
    show Value.ref (cn_x k 1 a (fun _ => q) (k + 0)) :: _ = _
    rw [cn_x_n (by omega)]
  rw [e2] at K2
  exact K2
theorem cn_newJ {n : Int32} {N k : Nat} (C : mm_Cx y d sc t) (hc : zf.1 ≤ t.2.2.2.1.cells) (hs : zf.2 ≤ t.2.2.2.1.slots) (hd : decode y.2.1 pc = .ok (.newarray .long, 2)) (hw : Cond.arrayClass .long ∈ mm_WS) (hn : ¬ n < 0) (hN : n.toNatClampNeg = N) (hN2 : N ≤ 100000) (h1 : z.1 + 1 ≤ zf.1) (h2 : z.2 + N ≤ zf.2) (hq : cn_st k 1 pi lv st L = true) (h : cn_G y t Z pi ph (z.1 + 1, z.2 + N) (pc + 2) lv (.ref k :: st) (L ++ [mm_aJ N fun _ => 0])) : cn_G y t Z pi ph z pc lv (.int n :: st) L := by
  obtain ⟨q1, q2, q3, q4, q5⟩ := cn_st_of hq
  intro a H locs lsA ha hR hl
  have K := fun q H1 => h (cn_x k 1 a fun _ => q) H1 locs lsA (by rw [cn_x_o q2]; exact ha)
  obtain ⟨p, l, e, R, s, m, args, below, meth, c, D, ad, cy, A⟩ := t
  obtain ⟨hx, hb, hml, hr, hown, hts, hlk, hK, hN', hE, hA, hd1, hd2, hfl, hsc⟩ := C
  obtain ⟨r1, r2, r3⟩ := hR
  refine va_newa (a0 := (N, .inr (.inl fun _ => 0))) (N' := N) hx hb (atype := .long) (hts _ hw) rfl hK r1 r2 r3 hA (fun _ => rfl) hn hN (by show N * 8 ≤ _; omega) (Nat.le_trans h1 hc) (Nat.le_trans h2 hs) hd (fun q cA H1 g1 g2 g3 g4 => ?_)
  have e9 : cA = cy 1 := Option.some.inj ((g1.2 3 (cA, .long) rfl).2.symm.trans (hK.2 1 (cy 1, .long) rfl).2)
  subst e9
  have e1 : cn_ws (cn_x k 1 a fun _ => q) cy (L ++ [mm_aJ N fun _ => 0]) = cn_ws a cy L ++ [(q, .inl (cy 1, N, .inr (.inl fun _ => 0)))] := cn_push q1 q3 rfl
  have K2 := K q H1 ⟨by rw [e1]; exact g2, by rw [e1]; exact g3, g4⟩ (by rw [cn_lvx q4]; exact hl)
  have e2 : (Value.ref k :: st).map (mm_cv (cn_x k 1 a fun _ => q)) = .ref q :: st.map (mm_cv a) := by
    rw [List.map_cons, cn_cvs q5]
    show Value.ref (cn_x k 1 a (fun _ => q) (k + 0)) :: _ = _
    rw [cn_x_n (by omega)]
  rw [e2] at K2
  exact K2
theorem cn_newZ {n : Int32} {N k : Nat} (C : mm_Cx y d sc t) (hc : zf.1 ≤ t.2.2.2.1.cells) (hs : zf.2 ≤ t.2.2.2.1.slots) (hd : decode y.2.1 pc = .ok (.newarray .boolean, 2)) (hw : Cond.arrayClass .boolean ∈ mm_WS) (hn : ¬ n < 0) (hN : n.toNatClampNeg = N) (hN2 : N ≤ 100000) (h1 : z.1 + 1 ≤ zf.1) (h2 : z.2 + N ≤ zf.2) (hq : cn_st k 1 pi lv st L = true) (h : cn_G y t Z pi ph (z.1 + 1, z.2 + N) (pc + 2) lv (.ref k :: st) (L ++ [mm_aZ N fun _ => 0])) : cn_G y t Z pi ph z pc lv (.int n :: st) L := by
  obtain ⟨q1, q2, q3, q4, q5⟩ := cn_st_of hq
  intro a H locs lsA ha hR hl
  have K := fun q H1 => h (cn_x k 1 a fun _ => q) H1 locs lsA (by rw [cn_x_o q2]; exact ha)
  obtain ⟨p, l, e, R, s, m, args, below, meth, c, D, ad, cy, A⟩ := t
  obtain ⟨hx, hb, hml, hr, hown, hts, hlk, hK, hN', hE, hA, hd1, hd2, hfl, hsc⟩ := C
  obtain ⟨r1, r2, r3⟩ := hR
  refine va_newa (a0 := (N, .inl fun _ => 0)) (N' := N) hx hb (atype := .boolean) (hts _ hw) rfl hK r1 r2 r3 hA (fun _ => rfl) hn hN (by show N * 1 ≤ _; omega) (Nat.le_trans h1 hc) (Nat.le_trans h2 hs) hd (fun q cA H1 g1 g2 g3 g4 => ?_)
  have e9 : cA = cy 2 := Option.some.inj ((g1.2 3 (cA, .boolean) rfl).2.symm.trans (hK.2 2 (cy 2, .boolean) rfl).2)
  subst e9
  have e1 : cn_ws (cn_x k 1 a fun _ => q) cy (L ++ [mm_aZ N fun _ => 0]) = cn_ws a cy L ++ [(q, .inl (cy 2, N, .inl fun _ => 0))] := cn_push q1 q3 rfl
  have K2 := K q H1 ⟨by rw [e1]; exact g2, by rw [e1]; exact g3, g4⟩ (by rw [cn_lvx q4]; exact hl)
  have e2 : (Value.ref k :: st).map (mm_cv (cn_x k 1 a fun _ => q)) = .ref q :: st.map (mm_cv a) := by
    rw [List.map_cons, cn_cvs q5]
    show Value.ref (cn_x k 1 a (fun _ => q) (k + 0)) :: _ = _
    rw [cn_x_n (by omega)]
  rw [e2] at K2
  exact K2
/-- a class whose objects are made here -/
def cn_N (own : String) (idx : Nat) (C : String) (N : Nat) : Prop := Cond.classLink own idx C ∈ mm_WS ∧ Cond.instantiable C N ∈ mm_WS ∧ Cond.initialized C ∈ mm_WS
theorem cn_new {ci N k : Nat} {Cn : String} {T : u_T} {fs : List Value} (ty : Nat → FieldType) (C : mm_Cx y d sc t) (hc : zf.1 ≤ t.2.2.2.1.cells) (hs : zf.2 ≤ t.2.2.2.1.slots) (hd : decode y.2.1 pc = .ok (.new idx, 3)) (hw : cn_N y.1.cls idx Cn N) (hv : vwCl[ci]? = some (Cn, T, N)) (hin : ∀ w ∈ u_ws Cn T N, w ∈ mm_WS) (hty : ∀ k, k < N → parseFieldDescriptor (T k).2.2.1 = some (ty k)) (hfs : ∀ j, j < N → defaultValue (ty j) = vp_V fs j) (hf0 : fs.all cn_zv = true) (h1 : z.1 + 1 ≤ zf.1) (h2 : z.2 + N ≤ zf.2) (hq : cn_st k 1 pi lv st L = true) (h : cn_G y t Z pi ph (z.1 + 1, z.2 + N) (pc + 3) lv (.ref k :: st) (L ++ [mm_aO ci fs])) : cn_G y t Z pi ph z pc lv st L := by
  obtain ⟨q1, q2, q3, q4, q5⟩ := cn_st_of hq
  intro a H locs lsA ha hR hl
  have K := fun q H1 => h (cn_x k 1 a fun _ => q) H1 locs lsA (by rw [cn_x_o q2]; exact ha)
  obtain ⟨p, l, e, R, s, m, args, below, meth, c, D, ad, cy, A⟩ := t
  obtain ⟨hx, hb, hml, hr, hown, hts, hlk, hK, hN', hE, hA, hd1, hd2, hfl, hsc⟩ := C
  obtain ⟨r1, r2, r3⟩ := hR
  obtain ⟨w1, w2, w3⟩ := hw
  refine va_new (ci := ci) (fs := fs) (C := Cn) (T := T) (N := N) hx hb hts hin ty hty hown (hts _ w1) (hts _ w2) (hts _ w3) hK r1 r2 r3 hA hv hfs (Nat.le_trans h1 hc) (Nat.le_trans h2 hs) hd (fun q H1 g2 g3 g4 => ?_)
  have e0 : fs.map (mm_cv a) = fs := by
    conv => rhs; rw [← List.map_id fs]
    refine List.map_congr_left fun v hv => ?_
    have := List.all_eq_true.mp hf0 v hv
    cases v <;> first | rfl | (simp [cn_zv] at this)
  have e1 : cn_ws (cn_x k 1 a fun _ => q) cy (L ++ [mm_aO ci fs]) = cn_ws a cy L ++ [(q, .inr (ci, fs))] := by
    rw [cn_push (c := mm_aO ci fs) q1 q3 hf0]
    show _ ++ [(q, (Sum.inr (ci, fs.map (mm_cv a)) : va_E))] = _
    rw [e0]
  have K2 := K q H1 ⟨by rw [e1]; exact g2, by rw [e1]; exact g3, g4⟩ (by rw [cn_lvx q4]; exact hl)
  have e2 : (Value.ref k :: st).map (mm_cv (cn_x k 1 a fun _ => q)) = .ref q :: st.map (mm_cv a) := by
    rw [List.map_cons, cn_cvs q5]
    show Value.ref (cn_x k 1 a (fun _ => q) (k + 0)) :: _ = _
    rw [cn_x_n (by omega)]
  rw [e2] at K2
  exact K2
/-- a field that is set once, in the constructor of its class -/
theorem cn_putF {ci k N o v : Nat} {Cn : String} {T : u_T} {fs : List Value} {ty : FieldType} (ty0 : Nat → FieldType) (C : mm_Cx y d sc t) (hname : t.2.2.2.2.2.2.2.2.1.name = "<init>") (hd : decode y.2.1 pc = .ok (.putfield idx, 3)) (hin : ∀ w ∈ u_ws Cn T N, w ∈ mm_WS) (hty : ∀ k, k < N → parseFieldDescriptor (T k).2.2.1 = some (ty0 k)) (hnm : ∀ a, a < N → ∀ b, b < N → a ≠ b → (T a).2.1 ≠ (T b).2.1) (hv : vwCl[ci]? = some (Cn, T, N)) (hk : k < N) (hw : Cond.fieldLink y.1.cls idx (T k).1 (T k).2.1 (T k).2.2.1 ∈ mm_WS) (hfin : (T k).2.2.2 = true) (hdecl : (T k).1 = y.1.cls) (hd1 : parseFieldDescriptor (T k).2.2.1 = some ty) (hn : ∀ q : Nat, narrow ty (.ref q) = .ref q) (hf : ∀ q : Nat, fits ty (.ref q) = true) (hlen : k < fs.length) (ho : o < L.length) (hL : cn_m L o = mm_aO ci fs) (h : cn_G y t Z pi ph z (pc + 3) lv st (L.set o (mm_aO ci (fs.set k (.ref v))))) : cn_G y t Z pi ph z pc lv (.ref v :: .ref o :: st) L := by
  intro a H locs lsA ha hR hl
  have K := fun H1 locs1 => h a H1 locs1 lsA ha
  obtain ⟨p, l, e, R, s, m, args, below, meth, c, D, ad, cy, A⟩ := t
  obtain ⟨hx, hb, hml, hr, hown, hts, hlk, hK, hN', hE, hA, hd1', hd2, hfl, hsc⟩ := C
  obtain ⟨r1, r2, r3⟩ := hR
  have he : (cn_ws a cy L)[o]? = some (a o, .inr (ci, fs.map (mm_cv a))) := by
    rw [cn_at ho, hL]
    rfl
  refine va_putF (D := D) (ci := ci) (v := .ref (a v)) (ty := ty) (C := Cn) (T := T) (N := N) hx hb hts hin ty0 hty hnm hown hK r1 r2 r3 o he hv k hk (hts _ hw) (fun _ h9 => h9) hfin hname hdecl hd1 (hn _) (hf _) (by rw [List.length_map]; exact hlen) hd (fun H1 locs1 g1 g2 g3 => ?_)
  have e1 : (cn_ws a cy L).set o (a o, .inr (ci, (fs.map (mm_cv a)).set k (.ref (a v)))) = cn_ws a cy (L.set o (mm_aO ci (fs.set k (.ref v)))) := by
    rw [← cn_set ho]
    show _ = (cn_ws a cy L).set o (a o, (Sum.inr (ci, (fs.set k (.ref v)).map (mm_cv a)) : va_E))
    rw [List.map_set]
    rfl
  rw [e1] at g1 g2
  exact K H1 locs1 ⟨g1, g2, g3⟩ hl
end CN2
