/-! CELLS COME: the judgement while the system is being made. L: the cells that have come, by their numbers, a: where they lie. -/
def cn_m (L : List mm_AC) : mm_Mem := fun i => L.getD i (mm_aI 0 fun _ => 0)
def cn_ws (a : Nat → Nat) (cy : Nat → ClassId) (L : List mm_AC) : va_W := (List.range L.length).map fun i => (a i, mm_cc a cy (cn_m L i))
theorem cn_at {a : Nat → Nat} {cy : Nat → ClassId} {L : List mm_AC} {i : Nat} (h : i < L.length) : (cn_ws a cy L)[i]? = some (a i, mm_cc a cy (cn_m L i)) := by
  simp [cn_ws, h]
theorem cn_len {a : Nat → Nat} {cy : Nat → ClassId} {L : List mm_AC} : (cn_ws a cy L).length = L.length := by simp [cn_ws]
/-- a number that stays where it was when k cells come behind n -/
def cn_v (n k : Nat) : Value → Bool
  | .ref i => decide (i < n ∨ n + k ≤ i)
  | _ => true
def cn_c (n k : Nat) : mm_AC → Bool
  | .inr (.inr (.inr (_, fs))) => fs.all (cn_v n k)
  | _ => true
def cn_ok (n k : Nat) (L : List mm_AC) : Bool := L.all (cn_c n k)
def cn_x (n k : Nat) (a b : Nat → Nat) : Nat → Nat := fun i => if n ≤ i ∧ i < n + k then b (i - n) else a i
theorem cn_x_o {n k i : Nat} {a b : Nat → Nat} (h : i < n ∨ n + k ≤ i) : cn_x n k a b i = a i := by
  unfold cn_x
  rw [if_neg (by omega)]
theorem cn_x_n {n k i : Nat} {a b : Nat → Nat} (h : i < k) : cn_x n k a b (n + i) = b i := by
  unfold cn_x
  rw [if_pos (by omega), Nat.add_sub_cancel_left]
theorem cn_cv {n k : Nat} {a b : Nat → Nat} {v : Value} (h : cn_v n k v = true) : mm_cv (cn_x n k a b) v = mm_cv a v := by
  cases v <;> first | rfl | skip
  show Value.ref _ = Value.ref _
  rw [cn_x_o (by simpa [cn_v] using h)]
theorem cn_cvs {n k : Nat} {a b : Nat → Nat} {vs : List Value} (h : vs.all (cn_v n k) = true) : vs.map (mm_cv (cn_x n k a b)) = vs.map (mm_cv a) :=
  List.map_congr_left fun v hv => cn_cv (List.all_eq_true.mp h v hv)
theorem cn_cc {n k : Nat} {a b : Nat → Nat} {cy : Nat → ClassId} {c : mm_AC} (h : cn_c n k c = true) : mm_cc (cn_x n k a b) cy c = mm_cc a cy c := by
  rcases c with c | c | c | ⟨ci, fs⟩
  · rfl
  · rfl
  · rfl
  · show (Sum.inr (ci, fs.map (mm_cv (cn_x n k a b))) : va_E) = Sum.inr (ci, fs.map (mm_cv a))
    rw [cn_cvs h]
theorem cn_mem {L : List mm_AC} {i : Nat} (h : i < L.length) : cn_m L i ∈ L := by
  unfold cn_m
  rw [List.getD_eq_getElem?_getD, List.getElem?_eq_getElem h]
  exact List.getElem_mem h
theorem cn_old {n k : Nat} {a b : Nat → Nat} {cy : Nat → ClassId} {L : List mm_AC} (h : cn_ok n k L = true) (hn : L.length ≤ n) : cn_ws (cn_x n k a b) cy L = cn_ws a cy L := by
  refine List.map_congr_left fun i hi => ?_
  have hi' := List.mem_range.mp hi
  rw [cn_x_o (Or.inl (by omega)), cn_cc (List.all_eq_true.mp h _ (cn_mem hi'))]
theorem cn_m_l {L1 L2 : List mm_AC} {i : Nat} (h : i < L1.length) : cn_m (L1 ++ L2) i = cn_m L1 i := by
  unfold cn_m
  rw [List.getD_eq_getElem?_getD, List.getD_eq_getElem?_getD, List.getElem?_append_left h]
theorem cn_m_r {L1 L2 : List mm_AC} {i : Nat} : cn_m (L1 ++ L2) (L1.length + i) = cn_m L2 i := by
  unfold cn_m
  rw [List.getD_eq_getElem?_getD, List.getD_eq_getElem?_getD, List.getElem?_append_right (by omega), Nat.add_sub_cancel_left]
theorem cn_app {a : Nat → Nat} {cy : Nat → ClassId} {L1 L2 : List mm_AC} : cn_ws a cy (L1 ++ L2) = cn_ws a cy L1 ++ (List.range L2.length).map fun i => (a (L1.length + i), mm_cc a cy (cn_m L2 i)) := by
  unfold cn_ws
  rw [List.length_append, List.range_add, List.map_append, List.map_map]
  congr 1
  · refine List.map_congr_left fun i hi => ?_
    rw [cn_m_l (List.mem_range.mp hi)]
  · refine List.map_congr_left fun i hi => ?_
    show (a (L1.length + i), _) = _
    rw [cn_m_r]
def cn_sv (n : Nat) : Value → Value
  | .ref k => .ref (n + k)
  | v => v
def cn_sc (n : Nat) : mm_AC → mm_AC
  | .inr (.inr (.inr (ci, fs))) => .inr (.inr (.inr (ci, fs.map (cn_sv n))))
  | c => c
/-- a cell's numbers lie below k -/
def cn_in (k : Nat) : Value → Bool
  | .ref i => decide (i < k)
  | _ => true
def cn_inC (k : Nat) : mm_AC → Bool
  | .inr (.inr (.inr (_, fs))) => fs.all (cn_in k)
  | _ => true
theorem cn_sv_cv {n k : Nat} {a b : Nat → Nat} {v : Value} (h : cn_in k v = true) : mm_cv (cn_x n k a b) (cn_sv n v) = mm_cv b v := by
  cases v <;> first | rfl | skip
  show Value.ref _ = Value.ref _
  rw [cn_x_n (by simpa [cn_in] using h)]
theorem cn_sc_cc {n k : Nat} {a b : Nat → Nat} {cy : Nat → ClassId} {c : mm_AC} (h : cn_inC k c = true) : mm_cc (cn_x n k a b) cy (cn_sc n c) = mm_cc b cy c := by
  rcases c with c | c | c | ⟨ci, fs⟩
  · rfl
  · rfl
  · rfl
  · show (Sum.inr (ci, (fs.map (cn_sv n)).map (mm_cv (cn_x n k a b))) : va_E) = Sum.inr (ci, fs.map (mm_cv b))
    rw [List.map_map]
    exact congrArg (fun l => (Sum.inr (ci, l) : va_E)) (List.map_congr_left fun v hv => cn_sv_cv (List.all_eq_true.mp h v hv))
theorem cn_join {n k : Nat} {a b : Nat → Nat} {cy : Nat → ClassId} {L1 L2 : List mm_AC} (hn : L1.length = n) (hk : L2.length = k) (h : cn_ok n k L1 = true) (h2 : L2.all (cn_inC k) = true) : cn_ws (cn_x n k a b) cy (L1 ++ L2.map (cn_sc n)) = cn_ws a cy L1 ++ cn_ws b cy L2 := by
  rw [cn_app, cn_old h (by omega), List.length_map]
  congr 1
  refine List.map_congr_left fun i hi => ?_
  have hi' := List.mem_range.mp hi
  have e : cn_m (L2.map (cn_sc n)) i = cn_sc n (cn_m L2 i) := by
    unfold cn_m
    rw [List.getD_eq_getElem?_getD, List.getD_eq_getElem?_getD, List.getElem?_map, List.getElem?_eq_getElem hi']
    rfl
  rw [e, hn, cn_x_n (by omega), cn_sc_cc (List.all_eq_true.mp h2 _ (cn_mem hi'))]
/-- a cell that speaks of no other -/
def cn_zv : Value → Bool
  | .ref _ => false
  | _ => true
def cn_zc : mm_AC → Bool
  | .inr (.inr (.inr (_, fs))) => fs.all cn_zv
  | _ => true
theorem cn_zcv {a b : Nat → Nat} {v : Value} (h : cn_zv v = true) : mm_cv a v = mm_cv b v := by
  cases v <;> first | rfl | (simp [cn_zv] at h)
theorem cn_zcc {a b : Nat → Nat} {cy : Nat → ClassId} {c : mm_AC} (h : cn_zc c = true) : mm_cc a cy c = mm_cc b cy c := by
  rcases c with c | c | c | ⟨ci, fs⟩
  · rfl
  · rfl
  · rfl
  · show (Sum.inr (ci, fs.map (mm_cv a)) : va_E) = Sum.inr (ci, fs.map (mm_cv b))
    rw [List.map_congr_left (fun v hv => cn_zcv (List.all_eq_true.mp h v hv))]
theorem cn_push {n : Nat} {a : Nat → Nat} {q : Nat} {cy : Nat → ClassId} {L : List mm_AC} {c : mm_AC} (hn : L.length = n) (h : cn_ok n 1 L = true) (hc : cn_zc c = true) : cn_ws (cn_x n 1 a fun _ => q) cy (L ++ [c]) = cn_ws a cy L ++ [(q, mm_cc a cy c)] := by
  rw [cn_app, cn_old h (by omega), hn]
  congr 1
  show [(cn_x n 1 a (fun _ => q) (n + 0), mm_cc _ cy (cn_m [c] 0))] = _
  rw [cn_x_n (by omega)]
  show [(q, mm_cc _ cy c)] = _
  rw [cn_zcc (b := a) hc]
theorem cn_set {a : Nat → Nat} {cy : Nat → ClassId} {L : List mm_AC} {o : Nat} {c : mm_AC} (h : o < L.length) : (cn_ws a cy L).set o (a o, mm_cc a cy c) = cn_ws a cy (L.set o c) := by
  apply List.ext_getElem?
  intro i
  have hl : (L.set o c).length = L.length := List.length_set
  by_cases hi : i < L.length
  · rw [cn_at (by rw [hl]; exact hi)]
    by_cases e : o = i
    · subst e
      rw [List.getElem?_set_self (by rw [cn_len]; exact h)]
      unfold cn_m
      rw [List.getD_eq_getElem?_getD, List.getElem?_set_self h]
      rfl
    · rw [List.getElem?_set_ne e, cn_at hi]
      unfold cn_m
      rw [List.getD_eq_getElem?_getD, List.getD_eq_getElem?_getD, List.getElem?_set_ne e]
  · rw [List.getElem?_eq_none (by rw [List.length_set, cn_len]; omega), List.getElem?_eq_none (by rw [cn_len, hl]; omega)]
def cn_R (t : mm_T) (a : Nat → Nat) (L : List mm_AC) (H : Heap) (locs : List Loc) : Prop :=
  match t with
  | (_, _, _, _, s, _, _, _, _, _, D, _, cy, A) => va_P D vwCl (cn_ws a cy L) H ∧ va_D A (cn_ws a cy L) ∧ va_S A s.heap H locs
def cn_lv (a : Nat → Nat) (lv : List (Nat × Value)) : List (Nat × Value) := lv.map fun q => (q.1, mm_cv a q.2)
/-- from pc on, for all places of the cells (but number pi lies at ph) -/
def cn_G (y : mm_MR) (t : mm_T) (Z : State → Prop) (pi ph : Nat) (z : Nat × Nat) (pc : Nat) (lv : List (Nat × Value)) (st : List Value) (L : List mm_AC) : Prop :=
  ∀ (a : Nat → Nat) (H : Heap) (locs : List Loc) (lsA : Array Slot), a pi = ph → cn_R t a L H locs → lv_has lsA y.2.2.1 (cn_lv a lv) → mm_W t H locs z Z pc lsA (st.map (mm_cv a))
section CN
variable {y : mm_MR} {d : Nat} {sc : mm_SC} {t : mm_T} {Z : State → Prop} {pi ph pc : Nat} {z : Nat × Nat} {lv : List (Nat × Value)} {st : List Value} {L L' : List mm_AC}
theorem cn_iconst {n : Int} {v : Int32} (C : mm_Cx y d sc t) (hd : decode y.2.1 pc = .ok (.iconst n, 1)) (hv : Int32.ofInt n = v) (h : cn_G y t Z pi ph z (pc + 1) lv (.int v :: st) L) : cn_G y t Z pi ph z pc lv st L := by
  intro a H locs lsA ha hR hl
  have K := h a H locs lsA ha hR hl
  obtain ⟨p, l, e, R, s, m, args, below, meth, c, D, ad, cy, A⟩ := t
  obtain ⟨hx, hb, hml, hr, hown, hts, hlk, hK, hN, hE, hA, hd1, hd2, hfl, hsc⟩ := C
  exact lv_iconst hx hb hd hv K
theorem cn_bipush {n : Int} {v : Int32} (C : mm_Cx y d sc t) (hd : decode y.2.1 pc = .ok (.bipush n, 2)) (hv : (Int8.ofInt n).toInt32 = v) (h : cn_G y t Z pi ph z (pc + 2) lv (.int v :: st) L) : cn_G y t Z pi ph z pc lv st L := by
  intro a H locs lsA ha hR hl
  have K := h a H locs lsA ha hR hl
  obtain ⟨p, l, e, R, s, m, args, below, meth, c, D, ad, cy, A⟩ := t
  obtain ⟨hx, hb, hml, hr, hown, hts, hlk, hK, hN, hE, hA, hd1, hd2, hfl, hsc⟩ := C
  exact lv_bipush hx hb hd hv K
theorem cn_sipush {n : Int} {v : Int32} (C : mm_Cx y d sc t) (hd : decode y.2.1 pc = .ok (.sipush n, 3)) (hv : (Int16.ofInt n).toInt32 = v) (h : cn_G y t Z pi ph z (pc + 3) lv (.int v :: st) L) : cn_G y t Z pi ph z pc lv st L := by
  intro a H locs lsA ha hR hl
  have K := h a H locs lsA ha hR hl
  obtain ⟨p, l, e, R, s, m, args, below, meth, c, D, ad, cy, A⟩ := t
  obtain ⟨hx, hb, hml, hr, hown, hts, hlk, hK, hN, hE, hA, hd1, hd2, hfl, hsc⟩ := C
  exact lv_sipush hx hb hd hv K
theorem cn_dup {x : Nat} (C : mm_Cx y d sc t) (hd : decode y.2.1 pc = .ok (.dup, 1)) (h : cn_G y t Z pi ph z (pc + 1) lv (.ref x :: .ref x :: st) L) : cn_G y t Z pi ph z pc lv (.ref x :: st) L := by
  intro a H locs lsA ha hR hl
  have K := h a H locs lsA ha hR hl
  obtain ⟨p, l, e, R, s, m, args, below, meth, c, D, ad, cy, A⟩ := t
  obtain ⟨hx, hb, hml, hr, hown, hts, hlk, hK, hN, hE, hA, hd1, hd2, hfl, hsc⟩ := C
  exact lv_dup hx hb hd rfl K
theorem cn_aload0 {x : Nat} (C : mm_Cx y d sc t) (hd : decode y.2.1 pc = .ok (.aload_n 0, 1)) (h0 : lv[0]? = some (0, .ref x)) (h : cn_G y t Z pi ph z (pc + 1) lv (.ref x :: st) L) : cn_G y t Z pi ph z pc lv st L := by
  intro a H locs lsA ha hR hl
  have K := h a H locs lsA ha hR hl
  obtain ⟨p, l, e, R, s, m, args, below, meth, c, D, ad, cy, A⟩ := t
  obtain ⟨hx, hb, hml, hr, hown, hts, hlk, hK, hN, hE, hA, hd1, hd2, hfl, hsc⟩ := C
  have e1 : (cn_lv a lv)[0]? = some (0, mm_cv a (.ref x)) := by
    unfold cn_lv
    rw [List.getElem?_map, h0]
    rfl
  exact lv_aload_n hx hb hd rfl (hl.2.2 _ (List.mem_of_getElem? e1)) K
theorem cn_astore_n {k : Fin 4} {x : Nat} (C : mm_Cx y d sc t) (hd : decode y.2.1 pc = .ok (.astore_n k, 1)) (hk : (k : Nat) < y.2.2.1) (hq : ∀ q ∈ lv, q.1 < (k : Nat) ∧ q.2.category = 1) (h : cn_G y t Z pi ph z (pc + 1) ((k, .ref x) :: lv) st L) : cn_G y t Z pi ph z pc lv (.ref x :: st) L := by
  intro a H locs lsA ha hR hl
  have K := fun lsB hl2 => h a H locs lsB ha hR hl2
  obtain ⟨p, l, e, R, s, m, args, below, meth, c, D, ad, cy, A⟩ := t
  obtain ⟨hx, hb, hml, hr, hown, hts, hlk, hK, hN, hE, hA, hd1, hd2, hfl, hsc⟩ := C
  refine lv_astore_n (lv' := cn_lv a ((k, .ref x) :: lv)) hx hb hd rfl hl hk ?_ (fun ls hl2 => K ls hl2)
  show (k.val, _) :: List.filter _ (cn_lv a lv) = (k.val, mm_cv a (.ref x)) :: cn_lv a lv
  congr 1
  refine List.filter_eq_self.mpr fun q hq2 => ?_
  obtain ⟨q0, hq0, rfl⟩ := List.mem_map.mp hq2
  obtain ⟨h1, h2⟩ := hq q0 hq0
  have h3 : (mm_cv a q0.2).category = 1 := by rw [mm_cat]; exact h2
  have h4 : (q0.1 == k.val) = false := by rw [beq_eq_false_iff_ne]; omega
  simp [h3, h4]
end CN
