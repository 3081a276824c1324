/-! THE ABSTRACT MACHINE'S JUDGEMENT. A memory gives each object of the system (by a number below 55) its contents; mm_X says of a place in a method, with locals, stack and memory, that from every machine state that holds them the method comes to its end with an answer and a memory that Q allows. One row an instruction, proved by the kit's rows; all later parts speak of mm_X, mm_S alone. -/
abbrev mm_AC : Type := (Nat × (Nat → Int32)) ⊕ ((Nat × (Nat → Int64)) ⊕ ((Nat × (Nat → Int32)) ⊕ (Nat × List Value)))
abbrev mm_aI (n : Nat) (f : Nat → Int32) : mm_AC := .inl (n, f)
abbrev mm_aJ (n : Nat) (f : Nat → Int64) : mm_AC := .inr (.inl (n, f))
abbrev mm_aZ (n : Nat) (f : Nat → Int32) : mm_AC := .inr (.inr (.inl (n, f)))
abbrev mm_aO (ci : Nat) (fs : List Value) : mm_AC := .inr (.inr (.inr (ci, fs)))
abbrev mm_Mem : Type := Nat → mm_AC
def mm_up (M : mm_Mem) (k : Nat) (c : mm_AC) : mm_Mem := fun j => if j = k then c else M j
theorem mm_up_s {M : mm_Mem} {k : Nat} {c : mm_AC} : mm_up M k c k = c := by simp [mm_up]
theorem mm_up_n {M : mm_Mem} {k j : Nat} {c : mm_AC} (h : j ≠ k) : mm_up M k c j = M j := by simp [mm_up, h]
theorem mm_up_up {M : mm_Mem} {k : Nat} {c c' : mm_AC} : mm_up (mm_up M k c) k c' = mm_up M k c' := by
  funext j
  by_cases h : j = k <;> simp [mm_up, h]
theorem mm_up_id {M : mm_Mem} {k : Nat} {c : mm_AC} (h : M k = c) : mm_up M k c = M := by
  funext j
  by_cases e : j = k
  · subst e
    simp [mm_up, h]
  · simp [mm_up, e]
theorem mm_up_comm {M : mm_Mem} {k j : Nat} {c c' : mm_AC} (h : j ≠ k) : mm_up (mm_up M k c) j c' = mm_up (mm_up M j c') k c := by
  funext i
  by_cases e : i = k
  · subst e
    have : ¬ i = j := fun q => h q.symm
    simp [mm_up, this]
  · simp [mm_up, e]
def mm_K : Nat := 55
/-- the abstract number of the script -/
def mm_scr : Nat := 1000
def mm_cv (ad : Nat → Nat) : Value → Value
  | .ref k => .ref (ad k)
  | v => v
def mm_cc (ad : Nat → Nat) (cy : Nat → ClassId) : mm_AC → va_E
  | .inl (n, f) => .inl (cy 0, n, .inl f)
  | .inr (.inl (n, f)) => .inl (cy 1, n, .inr (.inl f))
  | .inr (.inr (.inl (n, f))) => .inl (cy 2, n, .inl f)
  | .inr (.inr (.inr (ci, fs))) => .inr (ci, fs.map (mm_cv ad))
def mm_ws (ad : Nat → Nat) (cy : Nat → ClassId) (M : mm_Mem) : va_W := (List.range mm_K).map fun k => (ad k, mm_cc ad cy (M k))
def mm_tys (cy : Nat → ClassId) : List (ClassId × FieldType) := [(cy 0, .int), (cy 1, .long), (cy 2, .boolean)]
theorem mm_ws_at {ad : Nat → Nat} {cy : Nat → ClassId} {M : mm_Mem} {k : Nat} (h : k < mm_K) : (mm_ws ad cy M)[k]? = some (ad k, mm_cc ad cy (M k)) := by
  simp [mm_ws, h]
theorem mm_ws_up {ad : Nat → Nat} {cy : Nat → ClassId} {M : mm_Mem} {k : Nat} {c : mm_AC} (h : k < mm_K) : (mm_ws ad cy M).set k (ad k, mm_cc ad cy c) = mm_ws ad cy (mm_up M k c) := by
  apply List.ext_getElem?
  intro i
  by_cases hi : i < mm_K
  · by_cases e : k = i
    · subst e
      rw [List.getElem?_set_self (by simp [mm_ws, h]), mm_ws_at h, mm_up_s]
    · rw [List.getElem?_set_ne e, mm_ws_at hi, mm_ws_at hi, mm_up_n (Ne.symm e)]
  · simp [mm_ws, hi, List.getElem?_set]
/-- a method: its name, its code, its locals, what it returns -/
abbrev mm_MR : Type := MethodName × ByteArray × Nat × Option FieldType
/-- the words that every method has: all good ones of the tables -/
def mm_WS : List Cond := lw_tbl.filter goodWord
def mm_isN : Cond → Bool
  | .methodLinkNest _ _ _ _ => true
  | _ => false
def mm_NW : List Cond := tables_1.filter mm_isN
theorem mm_inW {w : Cond} (i : Nat) (h : lw_tbl[i]? = some w) (g : goodWord w = true) : w ∈ mm_WS := List.mem_filter.mpr ⟨List.mem_of_getElem? h, g⟩
theorem mm_inN {w : Cond} (i : Nat) (h : tables_1[i]? = some w) (g : mm_isN w = true) : w ∈ mm_NW := List.mem_filter.mpr ⟨List.mem_of_getElem? h, g⟩
def mm_NWs (U : State) : Prop := ∀ w ∈ mm_NW, va_Nw w U
theorem mm_NWs.warm {s U : State} (hW : s.WarmedH U.vm) (h : mm_NWs s) : mm_NWs U := by
  intro w hw
  have h1 := h w hw
  have h2 := (List.mem_filter.mp hw).2
  cases w <;> first | (exact va_Nw.warmM hW h1) | (simp [mm_isN] at h2)
theorem mm_NWs.same {s U : State} (e : s.vm = U.vm) (h : mm_NWs s) : mm_NWs U := by
  intro w hw
  have h1 := h w hw
  have h2 := (List.mem_filter.mp hw).2
  cases w <;> first | (exact va_Nw.same rfl e h1) | (simp [mm_isN] at h2)
/-- the two statics that a throw reads -/
def mm_E (A : Nat → Prop) (U : State) (H : Heap) : Prop := vx_Zq Bundle.tN "UNASSIGNED_STACK" Bundle.steD A U H ∧ vx_Zq Bundle.tN "SUPPRESSED_SENTINEL" Bundle.listD A U H
theorem mm_E.moved {A : Nat → Prop} {u U : State} {H : Heap} (hvm : u.vm.Alike U.vm) (h : mm_E A u H) : mm_E A U H := ⟨vx_Zq.moved hvm h.1, vx_Zq.moved hvm h.2⟩
theorem mm_E.kept {A : Nat → Prop} {U : State} {H H1 : Heap} (h : mm_E A U H) (hq : ∀ a : Nat, a < H.size → ¬ A a → H1[a]? = H[a]?) : mm_E A U H1 := ⟨vx_Zq.kept h.1 hq, vx_Zq.kept h.2 hq⟩
abbrev mm_SC : Type := Option (Nat × (Nat → Int32))
abbrev mm_T : Type := Program × Launch × Env × Room × State × MethodId × Array Value × List Frame × Method × Code × va_G × (Nat → Nat) × (Nat → ClassId) × (Nat → Prop)
def mm_W (t : mm_T) (H : Heap) (locs : List Loc) (z : Nat × Nat) (Z : State → Prop) (pc : Nat) (lsA : Array Slot) (st : List Value) : Prop :=
  match t with
  | (p, l, e, R, s, m, args, below, meth, c, _, _, _, _) => W p l e R s m args below meth c H locs z.1 z.2 Z (F0 m pc lsA st)
def mm_Cx (y : mm_MR) (d : Nat) (sc : mm_SC) (t : mm_T) : Prop :=
  match t with
  | (p, l, _, R, s, m, args, _, meth, c, D, ad, cy, A) =>
    p.tables.exec = Jvm.exec ∧ c.code = y.2.1 ∧ c.maxLocals = y.2.2.1 ∧ meth.sig.returnType = y.2.2.2 ∧ s.vm.findClass y.1.cls = some m.cls ∧ (∀ w ∈ mm_WS, w.before args s = true) ∧ meth.locks = false ∧
    va_K D vwCl (mm_tys cy) s ∧ mm_NWs s ∧ mm_E A s s.heap ∧ (∀ q, s.heap.size ≤ q → A q) ∧ d ≤ R.frames ∧ 40 * d ≤ R.locals ∧ l.flags = flags0 ∧
    (match sc with
      | none => True
      | some (L, xs) => va_X (ad mm_scr) L xs s s.heap ∧ ad mm_scr < s.heap.size ∧ ¬ A (ad mm_scr) ∧ R = room_1)
def mm_R (t : mm_T) (M : mm_Mem) (H : Heap) (locs : List Loc) : Prop :=
  match t with
  | (_, _, _, _, s, _, _, _, _, _, D, ad, cy, A) => va_P D vwCl (mm_ws ad cy M) H ∧ va_D A (mm_ws ad cy M) ∧ va_S A s.heap H locs
def mm_L (ad : Nat → Nat) (n : Nat) (lsA : Array Slot) (ls : List Value) : Prop := ls.length = n ∧ ∃ l, lv_has lsA n l ∧ ∀ (i : Nat) (v : Value), ls[i]? = some v → v ≠ .null → (i, mm_cv ad v) ∈ l
/-- how a method ends with r at pc: a return, or (a 'double') its throw -/
def mm_end (y : mm_MR) (pc : Nat) : Option Value → Prop
  | none => decode y.2.1 pc = .ok (.return_, 1) ∧ y.2.2.2 = none
  | some (.int x) => decode y.2.1 pc = .ok (.ireturn, 1) ∧ ∃ ty, y.2.2.2 = some ty ∧ narrow ty (.int x) = .int x
  | some (.long _) => decode y.2.1 pc = .ok (.lreturn, 1) ∧ y.2.2.2 = some .long
  | some (.ref _) => decode y.2.1 pc = .ok (.areturn, 1) ∧ ∃ n, y.2.2.2 = some (.object n)
  | some (.double _) => ∃ k, decode y.2.1 pc = .ok (.new k, 3)
  | _ => False
/-- what stands on the stack there -/
def mm_endS : Option Value → List Value
  | some (.double _) => []
  | r => r.toList
abbrev mm_thrown : Option Value := some (.double 0)
def mm_F (y : mm_MR) (t : mm_T) (Z : State → Prop) (Q : Option Value → mm_Mem → Prop) : Prop :=
  match t with
  | (_, _, _, R, _, _, _, _, _, _, _, ad, _, _) => ∀ (r : Option Value) (M : mm_Mem) (H : Heap) (locs : List Loc) (z : Nat × Nat) (pc : Nat) (lsA : Array Slot), Q r M → mm_R t M H locs → z.1 ≤ R.cells → z.2 ≤ R.slots → lsA.size = y.2.2.1 → mm_end y pc r → mm_W t H locs z Z pc lsA ((mm_endS r).map (mm_cv ad))
def mm_X (y : mm_MR) (d : Nat) (sc : mm_SC) (z : Nat × Nat) (pc : Nat) (ls st : List Value) (M : mm_Mem) (Q : Option Value → mm_Mem → Prop) : Prop :=
  ∀ (t : mm_T) (Z : State → Prop), mm_Cx y d sc t → mm_F y t Z Q → ∀ (H : Heap) (locs : List Loc) (lsA : Array Slot), z.1 ≤ t.2.2.2.1.cells → z.2 ≤ t.2.2.2.1.slots → mm_R t M H locs → mm_L t.2.2.2.2.2.2.2.2.2.2.2.1 y.2.2.1 lsA ls → mm_W t H locs z Z pc lsA (st.map (mm_cv t.2.2.2.2.2.2.2.2.2.2.2.1))
theorem mm_ld {ad : Nat → Nat} {n : Nat} {lsA : Array Slot} {ls : List Value} (h : mm_L ad n lsA ls) {i : Nat} {v : Value} (hl : ls[i]? = some v) (hv : v ≠ .null) : lsA[i]? = some (.val (mm_cv ad v)) := by
  obtain ⟨-, l, h1, h2⟩ := h
  exact h1.2.2 _ (h2 i v hl hv)
def mm_st1 (ls : List Value) (i : Nat) : Bool := decide (i < ls.length) && (i == 0 || match ls[i - 1]? with
  | some (.long _) => false
  | some (.double _) => false
  | _ => true)
theorem mm_cat {ad : Nat → Nat} (v : Value) : (mm_cv ad v).category = v.category := by cases v <;> rfl
theorem mm_st1_of {ls : List Value} {i : Nat} (h : mm_st1 ls i = true) : i < ls.length ∧ ∀ (j : Nat) (v : Value), j + 1 = i → ls[j]? = some v → v.category = 1 := by
  simp only [mm_st1, Bool.and_eq_true, decide_eq_true_eq, Bool.or_eq_true, beq_iff_eq] at h
  refine ⟨h.1, fun j v hj hv => ?_⟩
  subst hj
  rcases h.2 with h2 | h2
  · omega
  · rw [show j + 1 - 1 = j from by omega, hv] at h2
    cases v <;> first | rfl | (simp at h2)
theorem mm_L.set1 {ad : Nat → Nat} {n : Nat} {lsA lsB : Array Slot} {ls : List Value} {l : List (Nat × Value)} {i : Nat} {v : Value} (hn : ls.length = n) (hl : ∀ (i : Nat) (v : Value), ls[i]? = some v → v ≠ .null → (i, mm_cv ad v) ∈ l) (hs : mm_st1 ls i = true) (h : lv_has lsB n ((i, mm_cv ad v) :: l.filter (fun q => !(q.1 == i) && !(q.1 + 1 == i && q.2.category == 2)))) : mm_L ad n lsB (ls.set i v) := by
  obtain ⟨h1, h2⟩ := mm_st1_of hs
  refine ⟨by rw [List.length_set]; exact hn, _, h, fun j w hj hw => ?_⟩
  by_cases e : i = j
  · subst e
    rw [List.getElem?_set_self h1] at hj
    cases hj
    exact List.mem_cons_self
  · rw [List.getElem?_set_ne e] at hj
    refine List.mem_cons_of_mem _ (List.mem_filter.mpr ⟨hl j w hj hw, ?_⟩)
    have e' : ¬ j = i := fun q => e q.symm
    simp only [Bool.and_eq_true, Bool.not_eq_true', beq_eq_false_iff_ne, ne_eq, Bool.and_eq_false_iff]
    refine ⟨e', ?_⟩
    by_cases e2 : j + 1 = i
    · right
      rw [mm_cat, h2 j w e2 hj]
      decide
    · left
      exact e2
theorem mm_L.set2 {ad : Nat → Nat} {n : Nat} {lsA lsB : Array Slot} {ls : List Value} {l : List (Nat × Value)} {i : Nat} {v : Value} (hn : ls.length = n) (hl : ∀ (i : Nat) (v : Value), ls[i]? = some v → v ≠ .null → (i, mm_cv ad v) ∈ l) (hs : mm_st1 ls i = true) (h : lv_has lsB n ((i, mm_cv ad v) :: l.filter (fun q => !(q.1 == i) && (!(q.1 == i + 1) && !(q.1 + 1 == i && q.2.category == 2))))) : mm_L ad n lsB ((ls.set i v).set (i + 1) .null) := by
  obtain ⟨h1, h2⟩ := mm_st1_of hs
  refine ⟨by rw [List.length_set, List.length_set]; exact hn, _, h, fun j w hj hw => ?_⟩
  by_cases e0 : i + 1 = j
  · subst e0
    rw [List.getElem?_set] at hj
    simp only [if_true] at hj
    split at hj
    · cases hj
      exact absurd rfl hw
    · cases hj
  rw [List.getElem?_set_ne e0] at hj
  by_cases e : i = j
  · subst e
    rw [List.getElem?_set_self h1] at hj
    cases hj
    exact List.mem_cons_self
  · rw [List.getElem?_set_ne e] at hj
    refine List.mem_cons_of_mem _ (List.mem_filter.mpr ⟨hl j w hj hw, ?_⟩)
    have e' : ¬ j = i := fun q => e q.symm
    have e0' : ¬ j = i + 1 := fun q => e0 q.symm
    simp only [Bool.and_eq_true, Bool.not_eq_true', beq_eq_false_iff_ne, ne_eq, Bool.and_eq_false_iff]
    refine ⟨e', e0', ?_⟩
    by_cases e2 : j + 1 = i
    · right
      rw [mm_cat, h2 j w e2 hj]
      decide
    · left
      exact e2
def mm_shl (x w : Int32) : Int32 := x <<< (w &&& 31)
def mm_shr (x w : Int32) : Int32 := x >>> (w &&& 31)
def mm_ushr (x w : Int32) : Int32 := (x.toUInt32 >>> (w.toUInt32 &&& Int32.toUInt32 31)).toInt32
def mm_rem (x w : Int32) : Int32 := x - x / w * w
section MM
variable {y : mm_MR} {d : Nat} {sc : mm_SC} {z : Nat × Nat} {pc : Nat} {ls st : List Value} {M : mm_Mem} {Q : Option Value → mm_Mem → Prop}
theorem mm_iconst {n : Int} {v : Int32} (hd : decode y.2.1 pc = .ok (.iconst n, 1)) (hv : Int32.ofInt n = v) (h : mm_X y d sc z (pc + 1) ls (.int v :: st) M Q) : mm_X y d sc z pc ls (st) M Q := by
  intro t Z C F H locs lsA hz1 hz2 hR hL
  have K := h t Z C F H locs lsA hz1 hz2 hR hL
  obtain ⟨p, l, e, R, s, m, args, below, meth, c, D, ad, cy, A⟩ := t
  obtain ⟨hx, hb, hml, hr, hown, hts, hlk, hK, hN, hE, hA, hd1, hd2, hfl, hsc⟩ := C
  exact lv_iconst hx hb hd hv K
theorem mm_bipush {n : Int} {v : Int32} (hd : decode y.2.1 pc = .ok (.bipush n, 2)) (hv : (Int8.ofInt n).toInt32 = v) (h : mm_X y d sc z (pc + 2) ls (.int v :: st) M Q) : mm_X y d sc z pc ls (st) M Q := by
  intro t Z C F H locs lsA hz1 hz2 hR hL
  have K := h t Z C F H locs lsA hz1 hz2 hR hL
  obtain ⟨p, l, e, R, s, m, args, below, meth, c, D, ad, cy, A⟩ := t
  obtain ⟨hx, hb, hml, hr, hown, hts, hlk, hK, hN, hE, hA, hd1, hd2, hfl, hsc⟩ := C
  exact lv_bipush hx hb hd hv K
theorem mm_sipush {n : Int} {v : Int32} (hd : decode y.2.1 pc = .ok (.sipush n, 3)) (hv : (Int16.ofInt n).toInt32 = v) (h : mm_X y d sc z (pc + 3) ls (.int v :: st) M Q) : mm_X y d sc z pc ls (st) M Q := by
  intro t Z C F H locs lsA hz1 hz2 hR hL
  have K := h t Z C F H locs lsA hz1 hz2 hR hL
  obtain ⟨p, l, e, R, s, m, args, below, meth, c, D, ad, cy, A⟩ := t
  obtain ⟨hx, hb, hml, hr, hown, hts, hlk, hK, hN, hE, hA, hd1, hd2, hfl, hsc⟩ := C
  exact lv_sipush hx hb hd hv K
theorem mm_lconst {n : Fin 2} {v : Int64} (hd : decode y.2.1 pc = .ok (.lconst n, 1)) (hv : Int64.ofNat (n : Nat) = v) (h : mm_X y d sc z (pc + 1) ls (.long v :: st) M Q) : mm_X y d sc z pc ls (st) M Q := by
  intro t Z C F H locs lsA hz1 hz2 hR hL
  have K := h t Z C F H locs lsA hz1 hz2 hR hL
  obtain ⟨p, l, e, R, s, m, args, below, meth, c, D, ad, cy, A⟩ := t
  obtain ⟨hx, hb, hml, hr, hown, hts, hlk, hK, hN, hE, hA, hd1, hd2, hfl, hsc⟩ := C
  exact lv_lconst hx hb hd hv K
theorem mm_iload_n {k : Fin 4} {x : Int32} (hd : decode y.2.1 pc = .ok (.iload_n k, 1)) (hl : ls[(k : Nat)]? = some (.int x)) (h : mm_X y d sc z (pc + 1) ls (.int x :: st) M Q) : mm_X y d sc z pc ls (st) M Q := by
  intro t Z C F H locs lsA hz1 hz2 hR hL
  have K := h t Z C F H locs lsA hz1 hz2 hR hL
  obtain ⟨p, l, e, R, s, m, args, below, meth, c, D, ad, cy, A⟩ := t
  obtain ⟨hx, hb, hml, hr, hown, hts, hlk, hK, hN, hE, hA, hd1, hd2, hfl, hsc⟩ := C
  exact lv_iload_n hx hb hd rfl (mm_ld hL hl (fun q => by cases q)) K
theorem mm_iload {i : Nat} {x : Int32} (hd : decode y.2.1 pc = .ok (.iload i, 2)) (hl : ls[i]? = some (.int x)) (h : mm_X y d sc z (pc + 2) ls (.int x :: st) M Q) : mm_X y d sc z pc ls (st) M Q := by
  intro t Z C F H locs lsA hz1 hz2 hR hL
  have K := h t Z C F H locs lsA hz1 hz2 hR hL
  obtain ⟨p, l, e, R, s, m, args, below, meth, c, D, ad, cy, A⟩ := t
  obtain ⟨hx, hb, hml, hr, hown, hts, hlk, hK, hN, hE, hA, hd1, hd2, hfl, hsc⟩ := C
  exact lv_iload hx hb hd (mm_ld hL hl (fun q => by cases q)) K
theorem mm_lload_n {k : Fin 4} {x : Int64} (hd : decode y.2.1 pc = .ok (.lload_n k, 1)) (hl : ls[(k : Nat)]? = some (.long x)) (h : mm_X y d sc z (pc + 1) ls (.long x :: st) M Q) : mm_X y d sc z pc ls (st) M Q := by
  intro t Z C F H locs lsA hz1 hz2 hR hL
  have K := h t Z C F H locs lsA hz1 hz2 hR hL
  obtain ⟨p, l, e, R, s, m, args, below, meth, c, D, ad, cy, A⟩ := t
  obtain ⟨hx, hb, hml, hr, hown, hts, hlk, hK, hN, hE, hA, hd1, hd2, hfl, hsc⟩ := C
  exact lv_lload_n hx hb hd rfl (mm_ld hL hl (fun q => by cases q)) K
theorem mm_lload {i : Nat} {x : Int64} (hd : decode y.2.1 pc = .ok (.lload i, 2)) (hl : ls[i]? = some (.long x)) (h : mm_X y d sc z (pc + 2) ls (.long x :: st) M Q) : mm_X y d sc z pc ls (st) M Q := by
  intro t Z C F H locs lsA hz1 hz2 hR hL
  have K := h t Z C F H locs lsA hz1 hz2 hR hL
  obtain ⟨p, l, e, R, s, m, args, below, meth, c, D, ad, cy, A⟩ := t
  obtain ⟨hx, hb, hml, hr, hown, hts, hlk, hK, hN, hE, hA, hd1, hd2, hfl, hsc⟩ := C
  exact lv_lload hx hb hd (mm_ld hL hl (fun q => by cases q)) K
theorem mm_aload_n {k : Fin 4} {x : Nat} (hd : decode y.2.1 pc = .ok (.aload_n k, 1)) (hl : ls[(k : Nat)]? = some (.ref x)) (h : mm_X y d sc z (pc + 1) ls (.ref x :: st) M Q) : mm_X y d sc z pc ls (st) M Q := by
  intro t Z C F H locs lsA hz1 hz2 hR hL
  have K := h t Z C F H locs lsA hz1 hz2 hR hL
  obtain ⟨p, l, e, R, s, m, args, below, meth, c, D, ad, cy, A⟩ := t
  obtain ⟨hx, hb, hml, hr, hown, hts, hlk, hK, hN, hE, hA, hd1, hd2, hfl, hsc⟩ := C
  exact lv_aload_n hx hb hd rfl (mm_ld hL hl (fun q => by cases q)) K
theorem mm_aload {i : Nat} {x : Nat} (hd : decode y.2.1 pc = .ok (.aload i, 2)) (hl : ls[i]? = some (.ref x)) (h : mm_X y d sc z (pc + 2) ls (.ref x :: st) M Q) : mm_X y d sc z pc ls (st) M Q := by
  intro t Z C F H locs lsA hz1 hz2 hR hL
  have K := h t Z C F H locs lsA hz1 hz2 hR hL
  obtain ⟨p, l, e, R, s, m, args, below, meth, c, D, ad, cy, A⟩ := t
  obtain ⟨hx, hb, hml, hr, hown, hts, hlk, hK, hN, hE, hA, hd1, hd2, hfl, hsc⟩ := C
  exact lv_aload hx hb hd (mm_ld hL hl (fun q => by cases q)) K
theorem mm_istore_n {k : Fin 4} {x : Int32} (hd : decode y.2.1 pc = .ok (.istore_n k, 1)) (hs1 : mm_st1 ls (k : Nat) = true) (h : mm_X y d sc z (pc + 1) (ls.set (k : Nat) (.int x)) st M Q) : mm_X y d sc z pc ls (.int x :: st) M Q := by
  intro t Z C F H locs lsA hz1 hz2 hR hL
  obtain ⟨p, l, e, R, s, m, args, below, meth, c, D, ad, cy, A⟩ := t
  obtain ⟨hx, hb, hml, hr, hown, hts, hlk, hK, hN, hE, hA, hd1, hd2, hfl, hsc⟩ := C
  obtain ⟨hn, l9, hv, hm⟩ := id hL
  refine lv_istore_n hx hb hd rfl hv (by have := (mm_st1_of hs1).1; omega) rfl (fun lsB hB => ?_)
  exact h (p, l, e, R, s, m, args, below, meth, c, D, ad, cy, A) Z ⟨hx, hb, hml, hr, hown, hts, hlk, hK, hN, hE, hA, hd1, hd2, hfl, hsc⟩ F H locs lsB hz1 hz2 hR (mm_L.set1 (lsA := lsA) hn hm hs1 hB)
theorem mm_istore {i : Nat} {x : Int32} (hd : decode y.2.1 pc = .ok (.istore i, 2)) (hs1 : mm_st1 ls i = true) (h : mm_X y d sc z (pc + 2) (ls.set i (.int x)) st M Q) : mm_X y d sc z pc ls (.int x :: st) M Q := by
  intro t Z C F H locs lsA hz1 hz2 hR hL
  obtain ⟨p, l, e, R, s, m, args, below, meth, c, D, ad, cy, A⟩ := t
  obtain ⟨hx, hb, hml, hr, hown, hts, hlk, hK, hN, hE, hA, hd1, hd2, hfl, hsc⟩ := C
  obtain ⟨hn, l9, hv, hm⟩ := id hL
  refine lv_istore hx hb hd hv (by have := (mm_st1_of hs1).1; omega) rfl (fun lsB hB => ?_)
  exact h (p, l, e, R, s, m, args, below, meth, c, D, ad, cy, A) Z ⟨hx, hb, hml, hr, hown, hts, hlk, hK, hN, hE, hA, hd1, hd2, hfl, hsc⟩ F H locs lsB hz1 hz2 hR (mm_L.set1 (lsA := lsA) hn hm hs1 hB)
theorem mm_astore_n {k : Fin 4} {x : Nat} (hd : decode y.2.1 pc = .ok (.astore_n k, 1)) (hs1 : mm_st1 ls (k : Nat) = true) (h : mm_X y d sc z (pc + 1) (ls.set (k : Nat) (.ref x)) st M Q) : mm_X y d sc z pc ls (.ref x :: st) M Q := by
  intro t Z C F H locs lsA hz1 hz2 hR hL
  obtain ⟨p, l, e, R, s, m, args, below, meth, c, D, ad, cy, A⟩ := t
  obtain ⟨hx, hb, hml, hr, hown, hts, hlk, hK, hN, hE, hA, hd1, hd2, hfl, hsc⟩ := C
  obtain ⟨hn, l9, hv, hm⟩ := id hL
  refine lv_astore_n hx hb hd rfl hv (by have := (mm_st1_of hs1).1; omega) rfl (fun lsB hB => ?_)
  exact h (p, l, e, R, s, m, args, below, meth, c, D, ad, cy, A) Z ⟨hx, hb, hml, hr, hown, hts, hlk, hK, hN, hE, hA, hd1, hd2, hfl, hsc⟩ F H locs lsB hz1 hz2 hR (mm_L.set1 (lsA := lsA) hn hm hs1 hB)
theorem mm_astore {i : Nat} {x : Nat} (hd : decode y.2.1 pc = .ok (.astore i, 2)) (hs1 : mm_st1 ls i = true) (h : mm_X y d sc z (pc + 2) (ls.set i (.ref x)) st M Q) : mm_X y d sc z pc ls (.ref x :: st) M Q := by
  intro t Z C F H locs lsA hz1 hz2 hR hL
  obtain ⟨p, l, e, R, s, m, args, below, meth, c, D, ad, cy, A⟩ := t
  obtain ⟨hx, hb, hml, hr, hown, hts, hlk, hK, hN, hE, hA, hd1, hd2, hfl, hsc⟩ := C
  obtain ⟨hn, l9, hv, hm⟩ := id hL
  refine lv_astore hx hb hd hv (by have := (mm_st1_of hs1).1; omega) rfl (fun lsB hB => ?_)
  exact h (p, l, e, R, s, m, args, below, meth, c, D, ad, cy, A) Z ⟨hx, hb, hml, hr, hown, hts, hlk, hK, hN, hE, hA, hd1, hd2, hfl, hsc⟩ F H locs lsB hz1 hz2 hR (mm_L.set1 (lsA := lsA) hn hm hs1 hB)
theorem mm_lstore {i : Nat} {x : Int64} (hd : decode y.2.1 pc = .ok (.lstore i, 2)) (hs1 : mm_st1 ls i = true) (hs2 : i + 1 < ls.length) (h : mm_X y d sc z (pc + 2) ((ls.set i (.long x)).set (i + 1) .null) st M Q) : mm_X y d sc z pc ls (.long x :: st) M Q := by
  intro t Z C F H locs lsA hz1 hz2 hR hL
  obtain ⟨p, l, e, R, s, m, args, below, meth, c, D, ad, cy, A⟩ := t
  obtain ⟨hx, hb, hml, hr, hown, hts, hlk, hK, hN, hE, hA, hd1, hd2, hfl, hsc⟩ := C
  obtain ⟨hn, l9, hv, hm⟩ := id hL
  refine lv_lstore hx hb hd hv (by omega) rfl (fun lsB hB => ?_)
  exact h (p, l, e, R, s, m, args, below, meth, c, D, ad, cy, A) Z ⟨hx, hb, hml, hr, hown, hts, hlk, hK, hN, hE, hA, hd1, hd2, hfl, hsc⟩ F H locs lsB hz1 hz2 hR (mm_L.set2 (lsA := lsA) hn hm hs1 hB)
theorem mm_lstore_n {k : Fin 4} {x : Int64} (hd : decode y.2.1 pc = .ok (.lstore_n k, 1)) (hs1 : mm_st1 ls (k : Nat) = true) (hs2 : (k : Nat) + 1 < ls.length) (h : mm_X y d sc z (pc + 1) ((ls.set (k : Nat) (.long x)).set ((k : Nat) + 1) .null) st M Q) : mm_X y d sc z pc ls (.long x :: st) M Q := by
  intro t Z C F H locs lsA hz1 hz2 hR hL
  obtain ⟨p, l, e, R, s, m, args, below, meth, c, D, ad, cy, A⟩ := t
  obtain ⟨hx, hb, hml, hr, hown, hts, hlk, hK, hN, hE, hA, hd1, hd2, hfl, hsc⟩ := C
  obtain ⟨hn, l9, hv, hm⟩ := id hL
  refine lv_lstore_n hx hb hd rfl hv (by omega) rfl (fun lsB hB => ?_)
  exact h (p, l, e, R, s, m, args, below, meth, c, D, ad, cy, A) Z ⟨hx, hb, hml, hr, hown, hts, hlk, hK, hN, hE, hA, hd1, hd2, hfl, hsc⟩ F H locs lsB hz1 hz2 hR (mm_L.set2 (lsA := lsA) hn hm hs1 hB)
theorem mm_iinc {i : Nat} {n : Int} {x : Int32} (hd : decode y.2.1 pc = .ok (.iinc i n, 3)) (hl : ls[i]? = some (.int x)) {w : Int32} (hw : Int32.ofInt n = w) (hs1 : mm_st1 ls i = true) (h : mm_X y d sc z (pc + 3) (ls.set i (.int (x + w))) st M Q) : mm_X y d sc z pc ls st M Q := by
  intro t Z C F H locs lsA hz1 hz2 hR hL
  obtain ⟨p, l, e, R, s, m, args, below, meth, c, D, ad, cy, A⟩ := t
  obtain ⟨hx, hb, hml, hr, hown, hts, hlk, hK, hN, hE, hA, hd1, hd2, hfl, hsc⟩ := C
  subst hw
  obtain ⟨hn, l9, hv, hm⟩ := id hL
  obtain ⟨k9, hk9⟩ := List.getElem?_of_mem (hm i _ hl (fun q => by cases q))
  refine lv_iinc hx hb hd hv hk9 rfl (by have := (mm_st1_of hs1).1; omega) rfl (fun lsB hB => ?_)
  exact h (p, l, e, R, s, m, args, below, meth, c, D, ad, cy, A) Z ⟨hx, hb, hml, hr, hown, hts, hlk, hK, hN, hE, hA, hd1, hd2, hfl, hsc⟩ F H locs lsB hz1 hz2 hR (mm_L.set1 (lsA := lsA) hn hm hs1 hB)
theorem mm_iadd {x w : Int32} (hd : decode y.2.1 pc = .ok (.iadd, 1)) (h : mm_X y d sc z (pc + 1) ls (.int (x + w) :: st) M Q) : mm_X y d sc z pc ls (.int w :: .int x :: st) M Q := by
  intro t Z C F H locs lsA hz1 hz2 hR hL
  have K := h t Z C F H locs lsA hz1 hz2 hR hL
  obtain ⟨p, l, e, R, s, m, args, below, meth, c, D, ad, cy, A⟩ := t
  obtain ⟨hx, hb, hml, hr, hown, hts, hlk, hK, hN, hE, hA, hd1, hd2, hfl, hsc⟩ := C
  exact lv_iadd hx hb hd K
theorem mm_isub {x w : Int32} (hd : decode y.2.1 pc = .ok (.isub, 1)) (h : mm_X y d sc z (pc + 1) ls (.int (x - w) :: st) M Q) : mm_X y d sc z pc ls (.int w :: .int x :: st) M Q := by
  intro t Z C F H locs lsA hz1 hz2 hR hL
  have K := h t Z C F H locs lsA hz1 hz2 hR hL
  obtain ⟨p, l, e, R, s, m, args, below, meth, c, D, ad, cy, A⟩ := t
  obtain ⟨hx, hb, hml, hr, hown, hts, hlk, hK, hN, hE, hA, hd1, hd2, hfl, hsc⟩ := C
  exact lv_isub hx hb hd K
theorem mm_imul {x w : Int32} (hd : decode y.2.1 pc = .ok (.imul, 1)) (h : mm_X y d sc z (pc + 1) ls (.int (x * w) :: st) M Q) : mm_X y d sc z pc ls (.int w :: .int x :: st) M Q := by
  intro t Z C F H locs lsA hz1 hz2 hR hL
  have K := h t Z C F H locs lsA hz1 hz2 hR hL
  obtain ⟨p, l, e, R, s, m, args, below, meth, c, D, ad, cy, A⟩ := t
  obtain ⟨hx, hb, hml, hr, hown, hts, hlk, hK, hN, hE, hA, hd1, hd2, hfl, hsc⟩ := C
  exact lv_imul hx hb hd K
theorem mm_iand {x w : Int32} (hd : decode y.2.1 pc = .ok (.iand, 1)) (h : mm_X y d sc z (pc + 1) ls (.int (x &&& w) :: st) M Q) : mm_X y d sc z pc ls (.int w :: .int x :: st) M Q := by
  intro t Z C F H locs lsA hz1 hz2 hR hL
  have K := h t Z C F H locs lsA hz1 hz2 hR hL
  obtain ⟨p, l, e, R, s, m, args, below, meth, c, D, ad, cy, A⟩ := t
  obtain ⟨hx, hb, hml, hr, hown, hts, hlk, hK, hN, hE, hA, hd1, hd2, hfl, hsc⟩ := C
  exact lv_iand hx hb hd K
theorem mm_ior {x w : Int32} (hd : decode y.2.1 pc = .ok (.ior, 1)) (h : mm_X y d sc z (pc + 1) ls (.int (x ||| w) :: st) M Q) : mm_X y d sc z pc ls (.int w :: .int x :: st) M Q := by
  intro t Z C F H locs lsA hz1 hz2 hR hL
  have K := h t Z C F H locs lsA hz1 hz2 hR hL
  obtain ⟨p, l, e, R, s, m, args, below, meth, c, D, ad, cy, A⟩ := t
  obtain ⟨hx, hb, hml, hr, hown, hts, hlk, hK, hN, hE, hA, hd1, hd2, hfl, hsc⟩ := C
  exact lv_ior hx hb hd K
theorem mm_ixor {x w : Int32} (hd : decode y.2.1 pc = .ok (.ixor, 1)) (h : mm_X y d sc z (pc + 1) ls (.int (x ^^^ w) :: st) M Q) : mm_X y d sc z pc ls (.int w :: .int x :: st) M Q := by
  intro t Z C F H locs lsA hz1 hz2 hR hL
  have K := h t Z C F H locs lsA hz1 hz2 hR hL
  obtain ⟨p, l, e, R, s, m, args, below, meth, c, D, ad, cy, A⟩ := t
  obtain ⟨hx, hb, hml, hr, hown, hts, hlk, hK, hN, hE, hA, hd1, hd2, hfl, hsc⟩ := C
  exact lv_ixor hx hb hd K
theorem mm_ishl {x w : Int32} (hd : decode y.2.1 pc = .ok (.ishl, 1)) (h : mm_X y d sc z (pc + 1) ls (.int (mm_shl x w) :: st) M Q) : mm_X y d sc z pc ls (.int w :: .int x :: st) M Q := by
  intro t Z C F H locs lsA hz1 hz2 hR hL
  have K := h t Z C F H locs lsA hz1 hz2 hR hL
  obtain ⟨p, l, e, R, s, m, args, below, meth, c, D, ad, cy, A⟩ := t
  obtain ⟨hx, hb, hml, hr, hown, hts, hlk, hK, hN, hE, hA, hd1, hd2, hfl, hsc⟩ := C
  exact lv_ishl hx hb hd K
theorem mm_ishr {x w : Int32} (hd : decode y.2.1 pc = .ok (.ishr, 1)) (h : mm_X y d sc z (pc + 1) ls (.int (mm_shr x w) :: st) M Q) : mm_X y d sc z pc ls (.int w :: .int x :: st) M Q := by
  intro t Z C F H locs lsA hz1 hz2 hR hL
  have K := h t Z C F H locs lsA hz1 hz2 hR hL
  obtain ⟨p, l, e, R, s, m, args, below, meth, c, D, ad, cy, A⟩ := t
  obtain ⟨hx, hb, hml, hr, hown, hts, hlk, hK, hN, hE, hA, hd1, hd2, hfl, hsc⟩ := C
  exact lv_ishr hx hb hd K
theorem mm_idiv {x w : Int32} (hd : decode y.2.1 pc = .ok (.idiv, 1)) (hne : ¬ w = 0) (h : mm_X y d sc z (pc + 1) ls (.int (x / w) :: st) M Q) : mm_X y d sc z pc ls (.int w :: .int x :: st) M Q := by
  intro t Z C F H locs lsA hz1 hz2 hR hL
  have K := h t Z C F H locs lsA hz1 hz2 hR hL
  obtain ⟨p, l, e, R, s, m, args, below, meth, c, D, ad, cy, A⟩ := t
  obtain ⟨hx, hb, hml, hr, hown, hts, hlk, hK, hN, hE, hA, hd1, hd2, hfl, hsc⟩ := C
  exact lv_idiv hx hb hd hne K
theorem mm_irem {x w : Int32} (hd : decode y.2.1 pc = .ok (.irem, 1)) (hne : ¬ w = 0) (h : mm_X y d sc z (pc + 1) ls (.int (mm_rem x w) :: st) M Q) : mm_X y d sc z pc ls (.int w :: .int x :: st) M Q := by
  intro t Z C F H locs lsA hz1 hz2 hR hL
  have K := h t Z C F H locs lsA hz1 hz2 hR hL
  obtain ⟨p, l, e, R, s, m, args, below, meth, c, D, ad, cy, A⟩ := t
  obtain ⟨hx, hb, hml, hr, hown, hts, hlk, hK, hN, hE, hA, hd1, hd2, hfl, hsc⟩ := C
  exact lv_irem hx hb hd hne K
theorem mm_iushr {x w : Int32} (hd : decode y.2.1 pc = .ok (.iushr, 1)) (h : mm_X y d sc z (pc + 1) ls (.int (mm_ushr x w) :: st) M Q) : mm_X y d sc z pc ls (.int w :: .int x :: st) M Q := by
  intro t Z C F H locs lsA hz1 hz2 hR hL
  have K := h t Z C F H locs lsA hz1 hz2 hR hL
  obtain ⟨p, l, e, R, s, m, args, below, meth, c, D, ad, cy, A⟩ := t
  obtain ⟨hx, hb, hml, hr, hown, hts, hlk, hK, hN, hE, hA, hd1, hd2, hfl, hsc⟩ := C
  exact lv_iushr hx hb hd rfl K
theorem mm_ineg {x : Int32} (hd : decode y.2.1 pc = .ok (.ineg, 1)) (h : mm_X y d sc z (pc + 1) ls (.int (-x) :: st) M Q) : mm_X y d sc z pc ls (.int x :: st) M Q := by
  intro t Z C F H locs lsA hz1 hz2 hR hL
  have K := h t Z C F H locs lsA hz1 hz2 hR hL
  obtain ⟨p, l, e, R, s, m, args, below, meth, c, D, ad, cy, A⟩ := t
  obtain ⟨hx, hb, hml, hr, hown, hts, hlk, hK, hN, hE, hA, hd1, hd2, hfl, hsc⟩ := C
  exact lv_ineg hx hb hd K
theorem mm_i2l {x : Int32} (hd : decode y.2.1 pc = .ok (.i2l, 1)) (h : mm_X y d sc z (pc + 1) ls (.long x.toInt64 :: st) M Q) : mm_X y d sc z pc ls (.int x :: st) M Q := by
  intro t Z C F H locs lsA hz1 hz2 hR hL
  have K := h t Z C F H locs lsA hz1 hz2 hR hL
  obtain ⟨p, l, e, R, s, m, args, below, meth, c, D, ad, cy, A⟩ := t
  obtain ⟨hx, hb, hml, hr, hown, hts, hlk, hK, hN, hE, hA, hd1, hd2, hfl, hsc⟩ := C
  exact lv_i2l hx hb hd rfl K
theorem mm_ladd {x w : Int64} (hd : decode y.2.1 pc = .ok (.ladd, 1)) (h : mm_X y d sc z (pc + 1) ls (.long (x + w) :: st) M Q) : mm_X y d sc z pc ls (.long w :: .long x :: st) M Q := by
  intro t Z C F H locs lsA hz1 hz2 hR hL
  have K := h t Z C F H locs lsA hz1 hz2 hR hL
  obtain ⟨p, l, e, R, s, m, args, below, meth, c, D, ad, cy, A⟩ := t
  obtain ⟨hx, hb, hml, hr, hown, hts, hlk, hK, hN, hE, hA, hd1, hd2, hfl, hsc⟩ := C
  exact lv_ladd hx hb hd K
theorem mm_lsub {x w : Int64} (hd : decode y.2.1 pc = .ok (.lsub, 1)) (h : mm_X y d sc z (pc + 1) ls (.long (x - w) :: st) M Q) : mm_X y d sc z pc ls (.long w :: .long x :: st) M Q := by
  intro t Z C F H locs lsA hz1 hz2 hR hL
  have K := h t Z C F H locs lsA hz1 hz2 hR hL
  obtain ⟨p, l, e, R, s, m, args, below, meth, c, D, ad, cy, A⟩ := t
  obtain ⟨hx, hb, hml, hr, hown, hts, hlk, hK, hN, hE, hA, hd1, hd2, hfl, hsc⟩ := C
  exact lv_lsub hx hb hd K
theorem mm_lmul {x w : Int64} (hd : decode y.2.1 pc = .ok (.lmul, 1)) (h : mm_X y d sc z (pc + 1) ls (.long (x * w) :: st) M Q) : mm_X y d sc z pc ls (.long w :: .long x :: st) M Q := by
  intro t Z C F H locs lsA hz1 hz2 hR hL
  have K := h t Z C F H locs lsA hz1 hz2 hR hL
  obtain ⟨p, l, e, R, s, m, args, below, meth, c, D, ad, cy, A⟩ := t
  obtain ⟨hx, hb, hml, hr, hown, hts, hlk, hK, hN, hE, hA, hd1, hd2, hfl, hsc⟩ := C
  exact lv_lmul hx hb hd K
theorem mm_lcmp {x w : Int64} (hd : decode y.2.1 pc = .ok (.lcmp, 1)) (h : mm_X y d sc z (pc + 1) ls (.int (lg_cmp x w) :: st) M Q) : mm_X y d sc z pc ls (.long w :: .long x :: st) M Q := by
  intro t Z C F H locs lsA hz1 hz2 hR hL
  have K := h t Z C F H locs lsA hz1 hz2 hR hL
  obtain ⟨p, l, e, R, s, m, args, below, meth, c, D, ad, cy, A⟩ := t
  obtain ⟨hx, hb, hml, hr, hown, hts, hlk, hK, hN, hE, hA, hd1, hd2, hfl, hsc⟩ := C
  exact W.lcmp hx hb hd K
theorem mm_dup {v : Value} (hd : decode y.2.1 pc = .ok (.dup, 1)) (hv : v.category = 1) (h : mm_X y d sc z (pc + 1) ls (v :: v :: st) M Q) : mm_X y d sc z pc ls (v :: st) M Q := by
  intro t Z C F H locs lsA hz1 hz2 hR hL
  have K := h t Z C F H locs lsA hz1 hz2 hR hL
  obtain ⟨p, l, e, R, s, m, args, below, meth, c, D, ad, cy, A⟩ := t
  obtain ⟨hx, hb, hml, hr, hown, hts, hlk, hK, hN, hE, hA, hd1, hd2, hfl, hsc⟩ := C
  exact lv_dup hx hb hd (by rw [mm_cat]; exact hv) K
theorem mm_pop {v : Value} (hd : decode y.2.1 pc = .ok (.pop, 1)) (hv : v.category = 1) (h : mm_X y d sc z (pc + 1) ls (st) M Q) : mm_X y d sc z pc ls (v :: st) M Q := by
  intro t Z C F H locs lsA hz1 hz2 hR hL
  have K := h t Z C F H locs lsA hz1 hz2 hR hL
  obtain ⟨p, l, e, R, s, m, args, below, meth, c, D, ad, cy, A⟩ := t
  obtain ⟨hx, hb, hml, hr, hown, hts, hlk, hK, hN, hE, hA, hd1, hd2, hfl, hsc⟩ := C
  exact lv_pop hx hb hd (by rw [mm_cat]; exact hv) K
theorem mm_dup2 {v w : Value} (hd : decode y.2.1 pc = .ok (.dup2, 1)) (hv : v.category = 1) (hw : w.category = 1) (h : mm_X y d sc z (pc + 1) ls (v :: w :: v :: w :: st) M Q) : mm_X y d sc z pc ls (v :: w :: st) M Q := by
  intro t Z C F H locs lsA hz1 hz2 hR hL
  have K := h t Z C F H locs lsA hz1 hz2 hR hL
  obtain ⟨p, l, e, R, s, m, args, below, meth, c, D, ad, cy, A⟩ := t
  obtain ⟨hx, hb, hml, hr, hown, hts, hlk, hK, hN, hE, hA, hd1, hd2, hfl, hsc⟩ := C
  exact lv_dup2_11 hx hb hd (by rw [mm_cat]; exact hv) (by rw [mm_cat]; exact hw) K
theorem mm_goto {off : Int} {tgt : Nat} (hd : decode y.2.1 pc = .ok (.goto off, 3)) (ht : (pc : Int) + off = (tgt : Int)) (h : mm_X y d sc z tgt ls (st) M Q) : mm_X y d sc z pc ls (st) M Q := by
  intro t Z C F H locs lsA hz1 hz2 hR hL
  have K := h t Z C F H locs lsA hz1 hz2 hR hL
  obtain ⟨p, l, e, R, s, m, args, below, meth, c, D, ad, cy, A⟩ := t
  obtain ⟨hx, hb, hml, hr, hown, hts, hlk, hK, hN, hE, hA, hd1, hd2, hfl, hsc⟩ := C
  exact lv_goto hx hb hd ht K
theorem mm_ifnull {x : Nat} {off : Int} (hd : decode y.2.1 pc = .ok (.ifnull off, 3)) (h : mm_X y d sc z (pc + 3) ls (st) M Q) : mm_X y d sc z pc ls (.ref x :: st) M Q := by
  intro t Z C F H locs lsA hz1 hz2 hR hL
  have K := h t Z C F H locs lsA hz1 hz2 hR hL
  obtain ⟨p, l, e, R, s, m, args, below, meth, c, D, ad, cy, A⟩ := t
  obtain ⟨hx, hb, hml, hr, hown, hts, hlk, hK, hN, hE, hA, hd1, hd2, hfl, hsc⟩ := C
  exact lv_ifnull hx hb hd K
theorem mm_ldcw {i : Nat} {v : Int32} (hd : decode y.2.1 pc = .ok (.ldc_w i, 3)) (hc : Jvm.Cond.constant y.1.cls i v ∈ mm_WS) (h : mm_X y d sc z (pc + 3) ls (.int v :: st) M Q) : mm_X y d sc z pc ls (st) M Q := by
  intro t Z C F H locs lsA hz1 hz2 hR hL
  have K := h t Z C F H locs lsA hz1 hz2 hR hL
  obtain ⟨p, l, e, R, s, m, args, below, meth, c, D, ad, cy, A⟩ := t
  obtain ⟨hx, hb, hml, hr, hown, hts, hlk, hK, hN, hE, hA, hd1, hd2, hfl, hsc⟩ := C
  exact lv_ldcw hx hb hown (hts _ hc) hd K
theorem mm_ldc {i : Nat} {v : Int32} (hd : decode y.2.1 pc = .ok (.ldc i, 2)) (hc : Jvm.Cond.constant y.1.cls i v ∈ mm_WS) (h : mm_X y d sc z (pc + 2) ls (.int v :: st) M Q) : mm_X y d sc z pc ls (st) M Q := by
  intro t Z C F H locs lsA hz1 hz2 hR hL
  have K := h t Z C F H locs lsA hz1 hz2 hR hL
  obtain ⟨p, l, e, R, s, m, args, below, meth, c, D, ad, cy, A⟩ := t
  obtain ⟨hx, hb, hml, hr, hown, hts, hlk, hK, hN, hE, hA, hd1, hd2, hfl, hsc⟩ := C
  exact lv_ldc hx hb hown (hts _ hc) hd K
theorem mm_ldc2 {i : Nat} {v : Int64} (hd : decode y.2.1 pc = .ok (.ldc2_w i, 3)) (hc : Jvm.Cond.constantLong y.1.cls i v ∈ mm_WS) (h : mm_X y d sc z (pc + 3) ls (.long v :: st) M Q) : mm_X y d sc z pc ls (st) M Q := by
  intro t Z C F H locs lsA hz1 hz2 hR hL
  have K := h t Z C F H locs lsA hz1 hz2 hR hL
  obtain ⟨p, l, e, R, s, m, args, below, meth, c, D, ad, cy, A⟩ := t
  obtain ⟨hx, hb, hml, hr, hown, hts, hlk, hK, hN, hE, hA, hd1, hd2, hfl, hsc⟩ := C
  exact lv_ldc2 hx hb hown (hts _ hc) hd K
theorem mm_if_eq {x : Int32} {off : Int} {tgt : Nat} (hd : decode y.2.1 pc = .ok (.ifCond .eq off, 3)) (ht : (pc : Int) + off = (tgt : Int)) (h1 : x = 0 → mm_X y d sc z tgt ls st M Q) (h2 : ¬ x = 0 → mm_X y d sc z (pc + 3) ls st M Q) : mm_X y d sc z pc ls (.int x :: st) M Q := by
  intro t Z C F H locs lsA hz1 hz2 hR hL
  obtain ⟨p, l, e, R, s, m, args, below, meth, c, D, ad, cy, A⟩ := t
  obtain ⟨hx, hb, hml, hr, hown, hts, hlk, hK, hN, hE, hA, hd1, hd2, hfl, hsc⟩ := C
  exact lv_if_eq hx hb hd ht (fun q => h1 q (p, l, e, R, s, m, args, below, meth, c, D, ad, cy, A) Z ⟨hx, hb, hml, hr, hown, hts, hlk, hK, hN, hE, hA, hd1, hd2, hfl, hsc⟩ F H locs lsA hz1 hz2 hR hL) (fun q => h2 q (p, l, e, R, s, m, args, below, meth, c, D, ad, cy, A) Z ⟨hx, hb, hml, hr, hown, hts, hlk, hK, hN, hE, hA, hd1, hd2, hfl, hsc⟩ F H locs lsA hz1 hz2 hR hL)
theorem mm_icmp_eq {x w : Int32} {off : Int} {tgt : Nat} (hd : decode y.2.1 pc = .ok (.if_icmp .eq off, 3)) (ht : (pc : Int) + off = (tgt : Int)) (h1 : x = w → mm_X y d sc z tgt ls st M Q) (h2 : ¬ x = w → mm_X y d sc z (pc + 3) ls st M Q) : mm_X y d sc z pc ls (.int w :: .int x :: st) M Q := by
  intro t Z C F H locs lsA hz1 hz2 hR hL
  obtain ⟨p, l, e, R, s, m, args, below, meth, c, D, ad, cy, A⟩ := t
  obtain ⟨hx, hb, hml, hr, hown, hts, hlk, hK, hN, hE, hA, hd1, hd2, hfl, hsc⟩ := C
  exact lv_icmp_eq hx hb hd ht (fun q => h1 q (p, l, e, R, s, m, args, below, meth, c, D, ad, cy, A) Z ⟨hx, hb, hml, hr, hown, hts, hlk, hK, hN, hE, hA, hd1, hd2, hfl, hsc⟩ F H locs lsA hz1 hz2 hR hL) (fun q => h2 q (p, l, e, R, s, m, args, below, meth, c, D, ad, cy, A) Z ⟨hx, hb, hml, hr, hown, hts, hlk, hK, hN, hE, hA, hd1, hd2, hfl, hsc⟩ F H locs lsA hz1 hz2 hR hL)
theorem mm_if_ne {x : Int32} {off : Int} {tgt : Nat} (hd : decode y.2.1 pc = .ok (.ifCond .ne off, 3)) (ht : (pc : Int) + off = (tgt : Int)) (h1 : ¬ x = 0 → mm_X y d sc z tgt ls st M Q) (h2 : x = 0 → mm_X y d sc z (pc + 3) ls st M Q) : mm_X y d sc z pc ls (.int x :: st) M Q := by
  intro t Z C F H locs lsA hz1 hz2 hR hL
  obtain ⟨p, l, e, R, s, m, args, below, meth, c, D, ad, cy, A⟩ := t
  obtain ⟨hx, hb, hml, hr, hown, hts, hlk, hK, hN, hE, hA, hd1, hd2, hfl, hsc⟩ := C
  exact lv_if_ne hx hb hd ht (fun q => h1 q (p, l, e, R, s, m, args, below, meth, c, D, ad, cy, A) Z ⟨hx, hb, hml, hr, hown, hts, hlk, hK, hN, hE, hA, hd1, hd2, hfl, hsc⟩ F H locs lsA hz1 hz2 hR hL) (fun q => h2 q (p, l, e, R, s, m, args, below, meth, c, D, ad, cy, A) Z ⟨hx, hb, hml, hr, hown, hts, hlk, hK, hN, hE, hA, hd1, hd2, hfl, hsc⟩ F H locs lsA hz1 hz2 hR hL)
theorem mm_icmp_ne {x w : Int32} {off : Int} {tgt : Nat} (hd : decode y.2.1 pc = .ok (.if_icmp .ne off, 3)) (ht : (pc : Int) + off = (tgt : Int)) (h1 : ¬ x = w → mm_X y d sc z tgt ls st M Q) (h2 : x = w → mm_X y d sc z (pc + 3) ls st M Q) : mm_X y d sc z pc ls (.int w :: .int x :: st) M Q := by
  intro t Z C F H locs lsA hz1 hz2 hR hL
  obtain ⟨p, l, e, R, s, m, args, below, meth, c, D, ad, cy, A⟩ := t
  obtain ⟨hx, hb, hml, hr, hown, hts, hlk, hK, hN, hE, hA, hd1, hd2, hfl, hsc⟩ := C
  exact lv_icmp_ne hx hb hd ht (fun q => h1 q (p, l, e, R, s, m, args, below, meth, c, D, ad, cy, A) Z ⟨hx, hb, hml, hr, hown, hts, hlk, hK, hN, hE, hA, hd1, hd2, hfl, hsc⟩ F H locs lsA hz1 hz2 hR hL) (fun q => h2 q (p, l, e, R, s, m, args, below, meth, c, D, ad, cy, A) Z ⟨hx, hb, hml, hr, hown, hts, hlk, hK, hN, hE, hA, hd1, hd2, hfl, hsc⟩ F H locs lsA hz1 hz2 hR hL)
theorem mm_if_lt {x : Int32} {off : Int} {tgt : Nat} (hd : decode y.2.1 pc = .ok (.ifCond .lt off, 3)) (ht : (pc : Int) + off = (tgt : Int)) (h1 : x < 0 → mm_X y d sc z tgt ls st M Q) (h2 : ¬ x < 0 → mm_X y d sc z (pc + 3) ls st M Q) : mm_X y d sc z pc ls (.int x :: st) M Q := by
  intro t Z C F H locs lsA hz1 hz2 hR hL
  obtain ⟨p, l, e, R, s, m, args, below, meth, c, D, ad, cy, A⟩ := t
  obtain ⟨hx, hb, hml, hr, hown, hts, hlk, hK, hN, hE, hA, hd1, hd2, hfl, hsc⟩ := C
  exact lv_if_lt hx hb hd ht (fun q => h1 q (p, l, e, R, s, m, args, below, meth, c, D, ad, cy, A) Z ⟨hx, hb, hml, hr, hown, hts, hlk, hK, hN, hE, hA, hd1, hd2, hfl, hsc⟩ F H locs lsA hz1 hz2 hR hL) (fun q => h2 q (p, l, e, R, s, m, args, below, meth, c, D, ad, cy, A) Z ⟨hx, hb, hml, hr, hown, hts, hlk, hK, hN, hE, hA, hd1, hd2, hfl, hsc⟩ F H locs lsA hz1 hz2 hR hL)
theorem mm_icmp_lt {x w : Int32} {off : Int} {tgt : Nat} (hd : decode y.2.1 pc = .ok (.if_icmp .lt off, 3)) (ht : (pc : Int) + off = (tgt : Int)) (h1 : x < w → mm_X y d sc z tgt ls st M Q) (h2 : ¬ x < w → mm_X y d sc z (pc + 3) ls st M Q) : mm_X y d sc z pc ls (.int w :: .int x :: st) M Q := by
  intro t Z C F H locs lsA hz1 hz2 hR hL
  obtain ⟨p, l, e, R, s, m, args, below, meth, c, D, ad, cy, A⟩ := t
  obtain ⟨hx, hb, hml, hr, hown, hts, hlk, hK, hN, hE, hA, hd1, hd2, hfl, hsc⟩ := C
  exact lv_icmp_lt hx hb hd ht (fun q => h1 q (p, l, e, R, s, m, args, below, meth, c, D, ad, cy, A) Z ⟨hx, hb, hml, hr, hown, hts, hlk, hK, hN, hE, hA, hd1, hd2, hfl, hsc⟩ F H locs lsA hz1 hz2 hR hL) (fun q => h2 q (p, l, e, R, s, m, args, below, meth, c, D, ad, cy, A) Z ⟨hx, hb, hml, hr, hown, hts, hlk, hK, hN, hE, hA, hd1, hd2, hfl, hsc⟩ F H locs lsA hz1 hz2 hR hL)
theorem mm_if_ge {x : Int32} {off : Int} {tgt : Nat} (hd : decode y.2.1 pc = .ok (.ifCond .ge off, 3)) (ht : (pc : Int) + off = (tgt : Int)) (h1 : 0 ≤ x → mm_X y d sc z tgt ls st M Q) (h2 : ¬ 0 ≤ x → mm_X y d sc z (pc + 3) ls st M Q) : mm_X y d sc z pc ls (.int x :: st) M Q := by
  intro t Z C F H locs lsA hz1 hz2 hR hL
  obtain ⟨p, l, e, R, s, m, args, below, meth, c, D, ad, cy, A⟩ := t
  obtain ⟨hx, hb, hml, hr, hown, hts, hlk, hK, hN, hE, hA, hd1, hd2, hfl, hsc⟩ := C
  exact lv_if_ge hx hb hd ht (fun q => h1 q (p, l, e, R, s, m, args, below, meth, c, D, ad, cy, A) Z ⟨hx, hb, hml, hr, hown, hts, hlk, hK, hN, hE, hA, hd1, hd2, hfl, hsc⟩ F H locs lsA hz1 hz2 hR hL) (fun q => h2 q (p, l, e, R, s, m, args, below, meth, c, D, ad, cy, A) Z ⟨hx, hb, hml, hr, hown, hts, hlk, hK, hN, hE, hA, hd1, hd2, hfl, hsc⟩ F H locs lsA hz1 hz2 hR hL)
theorem mm_icmp_ge {x w : Int32} {off : Int} {tgt : Nat} (hd : decode y.2.1 pc = .ok (.if_icmp .ge off, 3)) (ht : (pc : Int) + off = (tgt : Int)) (h1 : w ≤ x → mm_X y d sc z tgt ls st M Q) (h2 : ¬ w ≤ x → mm_X y d sc z (pc + 3) ls st M Q) : mm_X y d sc z pc ls (.int w :: .int x :: st) M Q := by
  intro t Z C F H locs lsA hz1 hz2 hR hL
  obtain ⟨p, l, e, R, s, m, args, below, meth, c, D, ad, cy, A⟩ := t
  obtain ⟨hx, hb, hml, hr, hown, hts, hlk, hK, hN, hE, hA, hd1, hd2, hfl, hsc⟩ := C
  exact lv_icmp_ge hx hb hd ht (fun q => h1 q (p, l, e, R, s, m, args, below, meth, c, D, ad, cy, A) Z ⟨hx, hb, hml, hr, hown, hts, hlk, hK, hN, hE, hA, hd1, hd2, hfl, hsc⟩ F H locs lsA hz1 hz2 hR hL) (fun q => h2 q (p, l, e, R, s, m, args, below, meth, c, D, ad, cy, A) Z ⟨hx, hb, hml, hr, hown, hts, hlk, hK, hN, hE, hA, hd1, hd2, hfl, hsc⟩ F H locs lsA hz1 hz2 hR hL)
theorem mm_if_gt {x : Int32} {off : Int} {tgt : Nat} (hd : decode y.2.1 pc = .ok (.ifCond .gt off, 3)) (ht : (pc : Int) + off = (tgt : Int)) (h1 : 0 < x → mm_X y d sc z tgt ls st M Q) (h2 : ¬ 0 < x → mm_X y d sc z (pc + 3) ls st M Q) : mm_X y d sc z pc ls (.int x :: st) M Q := by
  intro t Z C F H locs lsA hz1 hz2 hR hL
  obtain ⟨p, l, e, R, s, m, args, below, meth, c, D, ad, cy, A⟩ := t
  obtain ⟨hx, hb, hml, hr, hown, hts, hlk, hK, hN, hE, hA, hd1, hd2, hfl, hsc⟩ := C
  exact lv_if_gt hx hb hd ht (fun q => h1 q (p, l, e, R, s, m, args, below, meth, c, D, ad, cy, A) Z ⟨hx, hb, hml, hr, hown, hts, hlk, hK, hN, hE, hA, hd1, hd2, hfl, hsc⟩ F H locs lsA hz1 hz2 hR hL) (fun q => h2 q (p, l, e, R, s, m, args, below, meth, c, D, ad, cy, A) Z ⟨hx, hb, hml, hr, hown, hts, hlk, hK, hN, hE, hA, hd1, hd2, hfl, hsc⟩ F H locs lsA hz1 hz2 hR hL)
theorem mm_icmp_gt {x w : Int32} {off : Int} {tgt : Nat} (hd : decode y.2.1 pc = .ok (.if_icmp .gt off, 3)) (ht : (pc : Int) + off = (tgt : Int)) (h1 : w < x → mm_X y d sc z tgt ls st M Q) (h2 : ¬ w < x → mm_X y d sc z (pc + 3) ls st M Q) : mm_X y d sc z pc ls (.int w :: .int x :: st) M Q := by
  intro t Z C F H locs lsA hz1 hz2 hR hL
  obtain ⟨p, l, e, R, s, m, args, below, meth, c, D, ad, cy, A⟩ := t
  obtain ⟨hx, hb, hml, hr, hown, hts, hlk, hK, hN, hE, hA, hd1, hd2, hfl, hsc⟩ := C
  exact lv_icmp_gt hx hb hd ht (fun q => h1 q (p, l, e, R, s, m, args, below, meth, c, D, ad, cy, A) Z ⟨hx, hb, hml, hr, hown, hts, hlk, hK, hN, hE, hA, hd1, hd2, hfl, hsc⟩ F H locs lsA hz1 hz2 hR hL) (fun q => h2 q (p, l, e, R, s, m, args, below, meth, c, D, ad, cy, A) Z ⟨hx, hb, hml, hr, hown, hts, hlk, hK, hN, hE, hA, hd1, hd2, hfl, hsc⟩ F H locs lsA hz1 hz2 hR hL)
theorem mm_if_le {x : Int32} {off : Int} {tgt : Nat} (hd : decode y.2.1 pc = .ok (.ifCond .le off, 3)) (ht : (pc : Int) + off = (tgt : Int)) (h1 : x ≤ 0 → mm_X y d sc z tgt ls st M Q) (h2 : ¬ x ≤ 0 → mm_X y d sc z (pc + 3) ls st M Q) : mm_X y d sc z pc ls (.int x :: st) M Q := by
  intro t Z C F H locs lsA hz1 hz2 hR hL
  obtain ⟨p, l, e, R, s, m, args, below, meth, c, D, ad, cy, A⟩ := t
  obtain ⟨hx, hb, hml, hr, hown, hts, hlk, hK, hN, hE, hA, hd1, hd2, hfl, hsc⟩ := C
  exact lv_if_le hx hb hd ht (fun q => h1 q (p, l, e, R, s, m, args, below, meth, c, D, ad, cy, A) Z ⟨hx, hb, hml, hr, hown, hts, hlk, hK, hN, hE, hA, hd1, hd2, hfl, hsc⟩ F H locs lsA hz1 hz2 hR hL) (fun q => h2 q (p, l, e, R, s, m, args, below, meth, c, D, ad, cy, A) Z ⟨hx, hb, hml, hr, hown, hts, hlk, hK, hN, hE, hA, hd1, hd2, hfl, hsc⟩ F H locs lsA hz1 hz2 hR hL)
theorem mm_icmp_le {x w : Int32} {off : Int} {tgt : Nat} (hd : decode y.2.1 pc = .ok (.if_icmp .le off, 3)) (ht : (pc : Int) + off = (tgt : Int)) (h1 : x ≤ w → mm_X y d sc z tgt ls st M Q) (h2 : ¬ x ≤ w → mm_X y d sc z (pc + 3) ls st M Q) : mm_X y d sc z pc ls (.int w :: .int x :: st) M Q := by
  intro t Z C F H locs lsA hz1 hz2 hR hL
  obtain ⟨p, l, e, R, s, m, args, below, meth, c, D, ad, cy, A⟩ := t
  obtain ⟨hx, hb, hml, hr, hown, hts, hlk, hK, hN, hE, hA, hd1, hd2, hfl, hsc⟩ := C
  exact lv_icmp_le hx hb hd ht (fun q => h1 q (p, l, e, R, s, m, args, below, meth, c, D, ad, cy, A) Z ⟨hx, hb, hml, hr, hown, hts, hlk, hK, hN, hE, hA, hd1, hd2, hfl, hsc⟩ F H locs lsA hz1 hz2 hR hL) (fun q => h2 q (p, l, e, R, s, m, args, below, meth, c, D, ad, cy, A) Z ⟨hx, hb, hml, hr, hown, hts, hlk, hK, hN, hE, hA, hd1, hd2, hfl, hsc⟩ F H locs lsA hz1 hz2 hR hL)
theorem mm_tableOut {dflt lo hi : Int} {offs : Array Int} {len : Nat} {x : Int32} {tgt : Nat} (hd : decode y.2.1 pc = .ok (.tableswitch dflt lo hi offs, len)) (hx0 : x.toInt < lo ∨ hi < x.toInt) (ht : (pc : Int) + dflt = (tgt : Int)) (h : mm_X y d sc z tgt ls st M Q) : mm_X y d sc z pc ls (.int x :: st) M Q := by
  intro t Z C F H locs lsA hz1 hz2 hR hL
  have K := h t Z C F H locs lsA hz1 hz2 hR hL
  obtain ⟨p, l, e, R, s, m, args, below, meth, c, D, ad, cy, A⟩ := t
  obtain ⟨hx, hb, hml, hr, hown, hts, hlk, hK, hN, hE, hA, hd1, hd2, hfl, hsc⟩ := C
  exact lv_tableOut hx hb hd hx0 ht K
theorem mm_tableIn {dflt lo hi : Int} {offs : Array Int} {len : Nat} {x : Int32} {off : Int} {tgt : Nat} (hd : decode y.2.1 pc = .ok (.tableswitch dflt lo hi offs, len)) (h1 : ¬ x.toInt < lo) (h2 : ¬ hi < x.toInt) (ho : offs[(x.toInt - lo).toNat]? = some off) (ht : (pc : Int) + off = (tgt : Int)) (h : mm_X y d sc z tgt ls st M Q) : mm_X y d sc z pc ls (.int x :: st) M Q := by
  intro t Z C F H locs lsA hz1 hz2 hR hL
  have K := h t Z C F H locs lsA hz1 hz2 hR hL
  obtain ⟨p, l, e, R, s, m, args, below, meth, c, D, ad, cy, A⟩ := t
  obtain ⟨hx, hb, hml, hr, hown, hts, hlk, hK, hN, hE, hA, hd1, hd2, hfl, hsc⟩ := C
  exact lv_tableIn hx hb hd h1 h2 ho ht K
/-- field k of class ci, as class own's constant idx names it -/
def mm_FS (own : String) (idx ci k : Nat) : Prop := ∃ (C : String) (T : u_T) (N : Nat) (ty : Nat → FieldType), vwCl[ci]? = some (C, T, N) ∧ k < N ∧ Cond.fieldLink own idx C (T k).2.1 (T k).2.2.1 ∈ mm_WS ∧ (T k).1 = C ∧ (∀ w ∈ u_ws C T N, w ∈ mm_WS) ∧ (∀ k, k < N → parseFieldDescriptor (T k).2.2.1 = some (ty k)) ∧ (∀ a, a < N → ∀ b, b < N → a ≠ b → (T a).2.1 ≠ (T b).2.1)
/-- .. an int field that may be written -/
def mm_FI (own : String) (idx ci k : Nat) : Prop := mm_FS own idx ci k ∧ ∀ (C : String) (T : u_T) (N : Nat), vwCl[ci]? = some (C, T, N) → (T k).2.2.2 = false ∧ parseFieldDescriptor (T k).2.2.1 = some .int
def mm_FL (own : String) (idx ci k : Nat) : Prop := mm_FS own idx ci k ∧ ∀ (C : String) (T : u_T) (N : Nat), vwCl[ci]? = some (C, T, N) → (T k).2.2.2 = false ∧ parseFieldDescriptor (T k).2.2.1 = some .long
theorem mm_ob {D : va_G} {ad : Nat → Nat} {cy : Nat → ClassId} {M : mm_Mem} {a ci : Nat} {fs : List Value} (ha : a < mm_K) (hM : M a = mm_aO ci fs) : (mm_ws ad cy M)[a]? = some (ad a, .inr (ci, fs.map (mm_cv ad))) := by
  rw [mm_ws_at ha, hM]
  rfl
theorem mm_getfield {a idx ci k : Nat} {fs : List Value} {v : Value} (hd : decode y.2.1 pc = .ok (.getfield idx, 3)) (hF : mm_FS y.1.cls idx ci k) (ha : a < mm_K) (hM : M a = mm_aO ci fs) (hv : fs[k]? = some v) (h : mm_X y d sc z (pc + 3) ls (v :: st) M Q) : mm_X y d sc z pc ls (.ref a :: st) M Q := by
  intro t Z C F H locs lsA hz1 hz2 hR hL
  have K := h t Z C F H locs lsA hz1 hz2 hR hL
  obtain ⟨p, l, e, R, s, m, args, below, meth, c, D, ad, cy, A⟩ := t
  obtain ⟨hx, hb, hml, hr, hown, hts, hlk, hK, hN, hE, hA, hd1, hd2, hfl, hsc⟩ := C
  obtain ⟨C0, T, N, ty, c1, c2, c3, c4, c5, c6, c7⟩ := hF
  have hR1 := hR.1
  exact va_get hx hb hts c5 hown hK hR1 a (mm_ob (D := D) ha hM) c1 k c2 (hts _ c3) (fun x h => by rw [c4] at h; exact h) (v := mm_cv ad v) (by rw [List.getElem?_map, hv]; rfl) hd K
theorem mm_wsp {D : va_G} {ad : Nat → Nat} {cy : Nat → ClassId} {M : mm_Mem} {a ci k : Nat} {fs : List Value} {v : Value} (ha : a < mm_K) : (mm_ws ad cy M).set a (ad a, .inr (ci, (fs.map (mm_cv ad)).set k (mm_cv ad v))) = mm_ws ad cy (mm_up M a (mm_aO ci (fs.set k v))) := by
  rw [← mm_ws_up ha]
  simp [mm_cc, List.map_set]
theorem mm_puti {a idx ci k : Nat} {fs : List Value} {x : Int32} (hd : decode y.2.1 pc = .ok (.putfield idx, 3)) (hF : mm_FI y.1.cls idx ci k) (ha : a < mm_K) (hM : M a = mm_aO ci fs) (hl : k < fs.length) (h : mm_X y d sc z (pc + 3) ls st (mm_up M a (mm_aO ci (fs.set k (.int x)))) Q) : mm_X y d sc z pc ls (.int x :: .ref a :: st) M Q := by
  intro t Z C F H locs lsA hz1 hz2 hR hL
  obtain ⟨p, l, e, R, s, m, args, below, meth, c, D, ad, cy, A⟩ := t
  obtain ⟨hx, hb, hml, hr, hown, hts, hlk, hK, hN, hE, hA, hd1, hd2, hfl, hsc⟩ := C
  obtain ⟨⟨C0, T, N, ty, c1, c2, c3, c4, c5, c6, c7⟩, c8⟩ := hF
  obtain ⟨c9, c10⟩ := c8 _ _ _ c1
  obtain ⟨r1, r2, r3⟩ := hR
  refine va_put hx hb hts c5 ty c6 c7 hown hK r1 r2 r3 a (mm_ob (D := D) ha hM) c1 k c2 (hts _ c3) (fun x h => by rw [c4] at h; exact h) c9 c10 rfl rfl (by rw [List.length_map]; exact hl) hd (fun H1 locs1 q1 q2 q3 => ?_)
  rw [show Value.int x = mm_cv ad (.int x) from rfl, mm_wsp (D := D) ha] at q1 q2
  exact h (p, l, e, R, s, m, args, below, meth, c, D, ad, cy, A) Z ⟨hx, hb, hml, hr, hown, hts, hlk, hK, hN, hE, hA, hd1, hd2, hfl, hsc⟩ F H1 locs1 lsA hz1 hz2 ⟨q1, q2, q3⟩ hL
theorem mm_putl {a idx ci k : Nat} {fs : List Value} {x : Int64} (hd : decode y.2.1 pc = .ok (.putfield idx, 3)) (hF : mm_FL y.1.cls idx ci k) (ha : a < mm_K) (hM : M a = mm_aO ci fs) (hl : k < fs.length) (h : mm_X y d sc z (pc + 3) ls st (mm_up M a (mm_aO ci (fs.set k (.long x)))) Q) : mm_X y d sc z pc ls (.long x :: .ref a :: st) M Q := by
  intro t Z C F H locs lsA hz1 hz2 hR hL
  obtain ⟨p, l, e, R, s, m, args, below, meth, c, D, ad, cy, A⟩ := t
  obtain ⟨hx, hb, hml, hr, hown, hts, hlk, hK, hN, hE, hA, hd1, hd2, hfl, hsc⟩ := C
  obtain ⟨⟨C0, T, N, ty, c1, c2, c3, c4, c5, c6, c7⟩, c8⟩ := hF
  obtain ⟨c9, c10⟩ := c8 _ _ _ c1
  obtain ⟨r1, r2, r3⟩ := hR
  refine va_put hx hb hts c5 ty c6 c7 hown hK r1 r2 r3 a (mm_ob (D := D) ha hM) c1 k c2 (hts _ c3) (fun x h => by rw [c4] at h; exact h) c9 c10 rfl rfl (by rw [List.length_map]; exact hl) hd (fun H1 locs1 q1 q2 q3 => ?_)
  rw [show Value.long x = mm_cv ad (.long x) from rfl, mm_wsp (D := D) ha] at q1 q2
  exact h (p, l, e, R, s, m, args, below, meth, c, D, ad, cy, A) Z ⟨hx, hb, hml, hr, hown, hts, hlk, hK, hN, hE, hA, hd1, hd2, hfl, hsc⟩ F H1 locs1 lsA hz1 hz2 ⟨q1, q2, q3⟩ hL
theorem mm_iald {a n : Nat} {f : Nat → Int32} {i : Int32} (hd : decode y.2.1 pc = .ok (.iaload, 1)) (ha : a < mm_K) (hM : M a = mm_aI n f) (hi : vp_in i n) (h : mm_X y d sc z (pc + 1) ls (.int (f i.toNatClampNeg) :: st) M Q) : mm_X y d sc z pc ls (.int i :: .ref a :: st) M Q := by
  intro t Z C F H locs lsA hz1 hz2 hR hL
  have K := h t Z C F H locs lsA hz1 hz2 hR hL
  obtain ⟨p, l, e, R, s, m, args, below, meth, c, D, ad, cy, A⟩ := t
  obtain ⟨hx, hb, hml, hr, hown, hts, hlk, hK, hN, hE, hA, hd1, hd2, hfl, hsc⟩ := C
  exact va_iald hx hb hK hR.1 a 0 (by rw [mm_ws_at ha, hM]; rfl) rfl hi hd K
theorem mm_lald {a n : Nat} {f : Nat → Int64} {i : Int32} (hd : decode y.2.1 pc = .ok (.laload, 1)) (ha : a < mm_K) (hM : M a = mm_aJ n f) (hi : vp_in i n) (h : mm_X y d sc z (pc + 1) ls (.long (f i.toNatClampNeg) :: st) M Q) : mm_X y d sc z pc ls (.int i :: .ref a :: st) M Q := by
  intro t Z C F H locs lsA hz1 hz2 hR hL
  have K := h t Z C F H locs lsA hz1 hz2 hR hL
  obtain ⟨p, l, e, R, s, m, args, below, meth, c, D, ad, cy, A⟩ := t
  obtain ⟨hx, hb, hml, hr, hown, hts, hlk, hK, hN, hE, hA, hd1, hd2, hfl, hsc⟩ := C
  exact va_lald hx hb hK hR.1 a 1 (by rw [mm_ws_at ha, hM]; rfl) rfl hi hd K
theorem mm_zald {a n : Nat} {f : Nat → Int32} {i : Int32} (hd : decode y.2.1 pc = .ok (.baload, 1)) (ha : a < mm_K) (hM : M a = mm_aZ n f) (hi : vp_in i n) (h : mm_X y d sc z (pc + 1) ls (.int (f i.toNatClampNeg) :: st) M Q) : mm_X y d sc z pc ls (.int i :: .ref a :: st) M Q := by
  intro t Z C F H locs lsA hz1 hz2 hR hL
  have K := h t Z C F H locs lsA hz1 hz2 hR hL
  obtain ⟨p, l, e, R, s, m, args, below, meth, c, D, ad, cy, A⟩ := t
  obtain ⟨hx, hb, hml, hr, hown, hts, hlk, hK, hN, hE, hA, hd1, hd2, hfl, hsc⟩ := C
  exact va_zald hx hb hK hR.1 a 2 (by rw [mm_ws_at ha, hM]; rfl) rfl hi hd K
theorem mm_iast {a n : Nat} {f : Nat → Int32} {i : Int32} {x : Int32} (hd : decode y.2.1 pc = .ok (.iastore, 1)) (ha : a < mm_K) (hM : M a = mm_aI n f) (hi : vp_in i n) (h : mm_X y d sc z (pc + 1) ls st (mm_up M a (mm_aI n (upd f i.toNatClampNeg x))) Q) : mm_X y d sc z pc ls (.int x :: .int i :: .ref a :: st) M Q := by
  intro t Z C F H locs lsA hz1 hz2 hR hL
  obtain ⟨p, l, e, R, s, m, args, below, meth, c, D, ad, cy, A⟩ := t
  obtain ⟨hx, hb, hml, hr, hown, hts, hlk, hK, hN, hE, hA, hd1, hd2, hfl, hsc⟩ := C
  obtain ⟨r1, r2, r3⟩ := hR
  refine va_iast hx hb hK r1 r2 r3 a 0 (by rw [mm_ws_at ha, hM]; rfl) rfl hi hd (fun H1 locs1 q1 q2 q3 => ?_)
  have e7 := mm_ws_up (ad := ad) (cy := cy) (M := M) (c := mm_aI n (upd f i.toNatClampNeg x)) ha
  simp only [mm_cc] at e7
  rw [e7] at q1 q2
  exact h (p, l, e, R, s, m, args, below, meth, c, D, ad, cy, A) Z ⟨hx, hb, hml, hr, hown, hts, hlk, hK, hN, hE, hA, hd1, hd2, hfl, hsc⟩ F H1 locs1 lsA hz1 hz2 ⟨q1, q2, q3⟩ hL
theorem mm_last {a n : Nat} {f : Nat → Int64} {i : Int32} {x : Int64} (hd : decode y.2.1 pc = .ok (.lastore, 1)) (ha : a < mm_K) (hM : M a = mm_aJ n f) (hi : vp_in i n) (h : mm_X y d sc z (pc + 1) ls st (mm_up M a (mm_aJ n (vp_updL f i.toNatClampNeg x))) Q) : mm_X y d sc z pc ls (.long x :: .int i :: .ref a :: st) M Q := by
  intro t Z C F H locs lsA hz1 hz2 hR hL
  obtain ⟨p, l, e, R, s, m, args, below, meth, c, D, ad, cy, A⟩ := t
  obtain ⟨hx, hb, hml, hr, hown, hts, hlk, hK, hN, hE, hA, hd1, hd2, hfl, hsc⟩ := C
  obtain ⟨r1, r2, r3⟩ := hR
  refine va_last hx hb hK r1 r2 r3 a 1 (by rw [mm_ws_at ha, hM]; rfl) rfl hi hd (fun H1 locs1 q1 q2 q3 => ?_)
  have e7 := mm_ws_up (ad := ad) (cy := cy) (M := M) (c := mm_aJ n (vp_updL f i.toNatClampNeg x)) ha
  simp only [mm_cc] at e7
  rw [e7] at q1 q2
  exact h (p, l, e, R, s, m, args, below, meth, c, D, ad, cy, A) Z ⟨hx, hb, hml, hr, hown, hts, hlk, hK, hN, hE, hA, hd1, hd2, hfl, hsc⟩ F H1 locs1 lsA hz1 hz2 ⟨q1, q2, q3⟩ hL
theorem mm_zast {a n : Nat} {f : Nat → Int32} {i : Int32} {x : Int32} (hd : decode y.2.1 pc = .ok (.bastore, 1)) (ha : a < mm_K) (hM : M a = mm_aZ n f) (hi : vp_in i n) (h : mm_X y d sc z (pc + 1) ls st (mm_up M a (mm_aZ n (upd f i.toNatClampNeg (vp_nar .boolean x)))) Q) : mm_X y d sc z pc ls (.int x :: .int i :: .ref a :: st) M Q := by
  intro t Z C F H locs lsA hz1 hz2 hR hL
  obtain ⟨p, l, e, R, s, m, args, below, meth, c, D, ad, cy, A⟩ := t
  obtain ⟨hx, hb, hml, hr, hown, hts, hlk, hK, hN, hE, hA, hd1, hd2, hfl, hsc⟩ := C
  obtain ⟨r1, r2, r3⟩ := hR
  refine va_zast hx hb hK r1 r2 r3 a 2 (by rw [mm_ws_at ha, hM]; rfl) rfl hi hd (fun H1 locs1 q1 q2 q3 => ?_)
  have e7 := mm_ws_up (ad := ad) (cy := cy) (M := M) (c := mm_aZ n (upd f i.toNatClampNeg (vp_nar .boolean x))) ha
  simp only [mm_cc] at e7
  rw [e7] at q1 q2
  exact h (p, l, e, R, s, m, args, below, meth, c, D, ad, cy, A) Z ⟨hx, hb, hml, hr, hown, hts, hlk, hK, hN, hE, hA, hd1, hd2, hfl, hsc⟩ F H1 locs1 lsA hz1 hz2 ⟨q1, q2, q3⟩ hL
theorem mm_alen {a n : Nat} {f : Nat → Int32} (hd : decode y.2.1 pc = .ok (.arraylength, 1)) (ha : a < mm_K) (hM : M a = mm_aI n f) (h : mm_X y d sc z (pc + 1) ls (.int (Int32.ofNat n) :: st) M Q) : mm_X y d sc z pc ls (.ref a :: st) M Q := by
  intro t Z C F H locs lsA hz1 hz2 hR hL
  have K := h t Z C F H locs lsA hz1 hz2 hR hL
  obtain ⟨p, l, e, R, s, m, args, below, meth, c, D, ad, cy, A⟩ := t
  obtain ⟨hx, hb, hml, hr, hown, hts, hlk, hK, hN, hE, hA, hd1, hd2, hfl, hsc⟩ := C
  exact va_alen (x := (n, .inl f)) hx hb hK hR.1 a 0 (by rw [mm_ws_at ha, hM]; rfl) rfl rfl hd K
theorem mm_alenL {a n : Nat} {f : Nat → Int64} (hd : decode y.2.1 pc = .ok (.arraylength, 1)) (ha : a < mm_K) (hM : M a = mm_aJ n f) (h : mm_X y d sc z (pc + 1) ls (.int (Int32.ofNat n) :: st) M Q) : mm_X y d sc z pc ls (.ref a :: st) M Q := by
  intro t Z C F H locs lsA hz1 hz2 hR hL
  have K := h t Z C F H locs lsA hz1 hz2 hR hL
  obtain ⟨p, l, e, R, s, m, args, below, meth, c, D, ad, cy, A⟩ := t
  obtain ⟨hx, hb, hml, hr, hown, hts, hlk, hK, hN, hE, hA, hd1, hd2, hfl, hsc⟩ := C
  exact va_alen (x := (n, .inr (.inl f))) hx hb hK hR.1 a 1 (by rw [mm_ws_at ha, hM]; rfl) rfl rfl hd K
theorem mm_sld {L : Nat} {xs : Nat → Int32} {i : Int32} (hd : decode y.2.1 pc = .ok (.iaload, 1)) (hi : vp_in i L) (h : mm_X y d (some (L, xs)) z (pc + 1) ls (.int (xs i.toNatClampNeg) :: st) M Q) : mm_X y d (some (L, xs)) z pc ls (.int i :: .ref mm_scr :: st) M Q := by
  intro t Z C F H locs lsA hz1 hz2 hR hL
  have K := h t Z C F H locs lsA hz1 hz2 hR hL
  obtain ⟨p, l, e, R, s, m, args, below, meth, c, D, ad, cy, A⟩ := t
  obtain ⟨hx, hb, hml, hr, hown, hts, hlk, hK, hN, hE, hA, hd1, hd2, hfl, hsc⟩ := C
  obtain ⟨s1, s2, s3, -⟩ := hsc
  exact va_sld hx hb s1 s2 s3 hR.2.2 hi hd K
theorem mm_slen {L : Nat} {xs : Nat → Int32} (hd : decode y.2.1 pc = .ok (.arraylength, 1)) (h : mm_X y d (some (L, xs)) z (pc + 1) ls (.int (Int32.ofNat L) :: st) M Q) : mm_X y d (some (L, xs)) z pc ls (.ref mm_scr :: st) M Q := by
  intro t Z C F H locs lsA hz1 hz2 hR hL
  have K := h t Z C F H locs lsA hz1 hz2 hR hL
  obtain ⟨p, l, e, R, s, m, args, below, meth, c, D, ad, cy, A⟩ := t
  obtain ⟨hx, hb, hml, hr, hown, hts, hlk, hK, hN, hE, hA, hd1, hd2, hfl, hsc⟩ := C
  obtain ⟨s1, s2, s3, -⟩ := hsc
  exact va_slen hx hb s1 s2 s3 hR.2.2 hd K
theorem mm_stop {r : Option Value} (he : mm_end y pc r) (hs : st = mm_endS r) (hq : Q r M) : mm_X y d sc z pc ls st M Q := by
  intro t Z C F H locs lsA hz1 hz2 hR hL
  obtain ⟨p, l, e, R, s, m, args, below, meth, c, D, ad, cy, A⟩ := t
  obtain ⟨hx, hb, hml, hr, hown, hts, hlk, hK, hN, hE, hA, hd1, hd2, hfl, hsc⟩ := C
  subst hs
  obtain ⟨hn, l9, hv, hm⟩ := hL
  exact F r M H locs z pc lsA hq hR hz1 hz2 hv.1 he
theorem mm_ireturn {x : Int32} (hd : decode y.2.1 pc = .ok (.ireturn, 1)) (ty : FieldType) (hy : y.2.2.2 = some ty) (hn : narrow ty (.int x) = .int x) (hq : Q (some (.int x)) M) : mm_X y d sc z pc ls [.int x] M Q := mm_stop (r := some (.int x)) ⟨hd, ty, hy, hn⟩ rfl hq
theorem mm_lreturn {x : Int64} (hd : decode y.2.1 pc = .ok (.lreturn, 1)) (hy : y.2.2.2 = some .long) (hq : Q (some (.long x)) M) : mm_X y d sc z pc ls [.long x] M Q := mm_stop (r := some (.long x)) ⟨hd, hy⟩ rfl hq
theorem mm_areturn {x : Nat} (hd : decode y.2.1 pc = .ok (.areturn, 1)) (nm : String) (hy : y.2.2.2 = some (.object nm)) (hq : Q (some (.ref x)) M) : mm_X y d sc z pc ls [.ref x] M Q := mm_stop (r := some (.ref x)) ⟨hd, nm, hy⟩ rfl hq
theorem mm_return (hd : decode y.2.1 pc = .ok (.return_, 1)) (hy : y.2.2.2 = none) (hq : Q none M) : mm_X y d sc z pc ls [] M Q := mm_stop (r := none) ⟨hd, hy⟩ rfl hq
theorem mm_throw {k : Nat} (hd : decode y.2.1 pc = .ok (.new k, 3)) (hq : Q mm_thrown M) : mm_X y d sc z pc ls [] M Q := mm_stop (r := mm_thrown) ⟨k, hd⟩ rfl hq
theorem mm_X.mono {Q' : Option Value → mm_Mem → Prop} (h : mm_X y d sc z pc ls st M Q) (hq : ∀ r M', Q r M' → Q' r M') : mm_X y d sc z pc ls st M Q' := by
  intro t Z C F
  refine h t Z C ?_
  obtain ⟨p, l, e, R, s, m, args, below, meth, c, D, ad, cy, A⟩ := t
  exact fun r M1 H locs z pc lsA hq1 => F r M1 H locs z pc lsA (hq r M1 hq1)
end MM
/-! CONTRACTS: mm_S d y mc ms av M P: method y, called with av over the memory M, with d frames of room, returns r over M' with P r M' (at most mc new cells of ms slots) -/
def mm_rm (d mc ms : Nat) : Room := { frames := d, cells := mc, slots := ms, locals := 40 * d }
def mm_w (y : mm_MR) : List Cond := .code y.1 y.2.1 y.2.2.1 y.2.2.2 :: mm_WS
def mm_Pc (D : va_G) (ad : Nat → Nat) (cy : Nat → ClassId) (A : Nat → Prop) (av : List Value) (M : mm_Mem) : Array Value → State → Prop := fun a U =>
  a = (av.map (mm_cv ad)).toArray ∧ va_P D vwCl (mm_ws ad cy M) U.heap ∧ va_D A (mm_ws ad cy M) ∧ va_K D vwCl (mm_tys cy) U ∧ mm_NWs U ∧ mm_E A U U.heap ∧ ∀ q, U.heap.size ≤ q → A q
def mm_Qc (D : va_G) (ad : Nat → Nat) (cy : Nat → ClassId) (A : Nat → Prop) (P : Option Value → mm_Mem → Prop) : Array Value → State → Outcome → State → Prop := fun _ st o t =>
  (∃ (r : Option Value) (M' : mm_Mem), P r M' ∧ o = .returned (r.map (mm_cv ad)) ∧ va_P D vwCl (mm_ws ad cy M') t.heap ∧ va_D A (mm_ws ad cy M')) ∧ va_F A st t
def mm_S (d : Nat) (y : mm_MR) (mc ms : Nat) (av : List Value) (M : mm_Mem) (P : Option Value → mm_Mem → Prop) : Prop :=
  ∀ (l : Launch) (D : va_G) (ad : Nat → Nat) (cy : Nat → ClassId) (A : Nat → Prop), l.flags = flags0 → Met l y.1 (mm_w y) (mm_rm d mc ms) (mm_Pc D ad cy A av M) (mm_Qc D ad cy A P) mc ms A
theorem mm_blind {D : va_G} {ad : Nat → Nat} {cy : Nat → ClassId} {A : Nat → Prop} {av : List Value} {M : mm_Mem} : FrameBlind (mm_Pc D ad cy A av M) := by
  intro a U g mk h
  obtain ⟨h1, h2, h3, h4, h5, h6, h7⟩ := h
  exact ⟨h1, h2, h3, va_K.moved (u := U) (U := U.calling g mk a) (Vm.Alike.refl U.vm) h4, mm_NWs.same (s := U) rfl h5, mm_E.moved (u := U) (U := U.calling g mk a) (Vm.Alike.refl U.vm) h6, h7⟩
def mm_c1 (v : Value) : Bool := match v with
  | .int _ => true
  | .ref _ => true
  | _ => false
theorem mm_c1_of {v : Value} (h : mm_c1 v = true) : v ≠ .null ∧ v.category = 1 := by
  cases v <;> simp_all [mm_c1, Value.category]
theorem mm_lg {ad : Nat → Nat} : ∀ (av : List Value), (∀ v ∈ av, v.category = 1) → lg_sl (av.map (mm_cv ad)) = (av.map (mm_cv ad)).map Slot.val
  | [], _ => rfl
  | v :: vs, h => by
    have h1 : (mm_cv ad v).category = 1 := by rw [mm_cat]; exact h v List.mem_cons_self
    have h2 := mm_lg (ad := ad) vs (fun w hw => h w (List.mem_cons_of_mem _ hw))
    simp only [lg_sl, List.map_cons, List.flatMap_cons, h1] at h2 ⊢
    rw [h2]
    rfl
theorem mm_args {ad : Nat → Nat} : ∀ (av : List Value) (k : Nat), (∀ v ∈ av, v.category = 1) → ∀ (i : Nat) (v : Value), av[i]? = some v → (k + i, mm_cv ad v) ∈ lv_args k (av.map (mm_cv ad))
  | [], _, _, i, v, hi => by simp at hi
  | w :: ws, k, h, i, v, hi => by
    have h1 : (mm_cv ad w).category = 1 := by rw [mm_cat]; exact h w List.mem_cons_self
    simp only [List.map_cons, lv_args, h1]
    cases i with
    | zero =>
      rw [List.getElem?_cons_zero] at hi
      cases hi
      exact List.mem_cons_self
    | succ i =>
      rw [List.getElem?_cons_succ] at hi
      have h2 := mm_args (ad := ad) ws (k + 1) (fun w hw => h w (List.mem_cons_of_mem _ hw)) i v hi
      rw [show k + (i + 1) = k + 1 + i from by omega]
      exact List.mem_cons_of_mem _ h2
theorem mm_S.of {d : Nat} {y : mm_MR} {av : List Value} {M : mm_Mem} {P : Option Value → mm_Mem → Prop} (hp : plainName y.1.cls = true) (hav : av.all mm_c1 = true) (hlen : av.length ≤ y.2.2.1) (hthr : ∀ r M', P r M' → ∀ x, r ≠ some (.double x))
    (h : mm_X y d none (0, 0) 0 (av ++ List.replicate (y.2.2.1 - av.length) .null) [] M P) : mm_S d y 0 0 av M P := by
  intro l D ad cy A hfl
  have hc : ∀ v ∈ av, v.category = 1 := fun v hv => (mm_c1_of (List.all_eq_true.mp hav v hv)).2
  refine Met.ofW (cc := y.2.1) (maxL := y.2.2.1) (ret := y.2.2.2) hp rfl ?_
  intro p e s m args below meth c s₁ B hml hv
  obtain ⟨rfl, v1, v2, v3, v4, v5, v6⟩ := hv
  have hts := atoms_spec (ws := mm_w y) B.pre
  have hown : s.vm.findClass y.1.cls = some m.cls := findClass_of_methodNamed B.named
  have hl := lv_entry (av.map (mm_cv ad)) (n := y.2.2.1) (by rw [mm_lg av hc]; simpa using hlen)
  rw [lg_entry_eq]
  generalize (lg_sl (av.map (mm_cv ad)) ++ List.replicate (y.2.2.1 - (lg_sl (av.map (mm_cv ad))).length) Slot.unset).toArray = lsA at hl ⊢
  refine h (p, l, e, (headSpec (mm_w y) (mm_rm d 0 0)).room, s, m, (av.map (mm_cv ad)).toArray, below, meth, c, D, ad, cy, A) (MQ below (mm_Qc D ad cy A P) (av.map (mm_cv ad)).toArray s 0 0 A)
    ⟨B.exec, B.bytes, hml, B.returns, hown, fun w hw => hts w (List.mem_cons_of_mem _ hw), B.notSynchronized, v3, v4, v5, v6, Nat.le_refl d, Nat.le_refl (40 * d), hfl, trivial⟩ ?_ s.heap [] lsA (Nat.le_refl 0) (Nat.le_refl 0) ⟨v1, v2, va_S.rf⟩ ⟨?_, _, hl, ?_⟩
  · intro r M' H locs z pc lsB hq hR hz1 hz2 hsz hend
    obtain ⟨r1, r2, r3⟩ := hR
    have e1 : z.1 = 0 := Nat.le_zero.mp hz1
    have e2 : z.2 = 0 := Nat.le_zero.mp hz2
    have hx := B.exec
    have hb := B.bytes
    have hr := B.returns
    have hlocks := B.notSynchronized
    show W p l e _ s m _ below meth c H locs z.1 z.2 _ _
    rw [e1, e2]
    have hQ : ∀ t : State, t.heap = H → s.WarmedH t.vm → mm_Qc D ad cy A P (av.map (mm_cv ad)).toArray s (.returned (r.map (mm_cv ad))) t := fun t ht _ => ⟨⟨r, M', hq, rfl, by rw [ht]; exact r1, r2⟩, r3.F ht⟩
    cases r with
    | none =>
      obtain ⟨hd, hy⟩ := hend
      exact W.vret hx hb (hr.trans hy) hQ r3.2.2 hd hlocks
    | some v =>
      cases v with
      | int x =>
        obtain ⟨hd, ty, hy, hn⟩ := hend
        exact W.zret hx hb (hr.trans hy) hn hQ r3.2.2 hd hlocks
      | long x =>
        obtain ⟨hd, hy⟩ := hend
        exact W.lret hx hb (hr.trans hy) hQ r3.2.2 hd hlocks
      | ref x =>
        obtain ⟨hd, n, hy⟩ := hend
        exact W.aret hx hb (hr.trans hy) (Or.inl ⟨n, rfl⟩) (Or.inr ⟨_, rfl⟩) hQ r3.2.2 hd hlocks
      | double x => exact absurd rfl (hthr _ _ hq x)
      | _ => exact hend.elim
  · simp only [List.length_append, List.length_replicate]
    omega
  · intro i v hi hvn
    by_cases hil : i < av.length
    · rw [List.getElem?_append_left hil] at hi
      have := mm_args (ad := ad) av 0 hc i v hi
      rwa [Nat.zero_add] at this
    · rw [List.getElem?_append_right (by omega), List.getElem?_replicate] at hi
      split at hi
      · cases hi
        exact absurd rfl hvn
      · cases hi
theorem mm_S.mono {d : Nat} {y : mm_MR} {mc ms : Nat} {av : List Value} {M : mm_Mem} {P P' : Option Value → mm_Mem → Prop} (h : mm_S d y mc ms av M P) (hP : ∀ r M', P r M' → P' r M') : mm_S d y mc ms av M P' := by
  intro l D ad cy A hfl
  have hM := h l D ad cy A hfl
  unfold Met at hM ⊢
  intro p e h1 h2 h3 s m args below h4 h5 h6 h7
  obtain ⟨t, o, g1, g2, g3, ⟨⟨r, M', q1, q2, q3⟩, q4⟩, g5⟩ := hM p e h1 h2 h3 s m args below h4 h5 h6 h7
  exact ⟨t, o, g1, g2, g3, ⟨⟨r, M', hP _ _ q1, q2, q3⟩, q4⟩, g5⟩
/-! CALLS -/
theorem mm_good (y : mm_MR) (hc : Cond.code y.1 y.2.1 y.2.2.1 y.2.2.2 ∈ mm_WS) : GoodIn mm_WS (mm_w y) := by
  have h : ∀ w ∈ mm_WS, w ∈ mm_WS ∧ ((w.onTables && w.keeps) = true ∨ ∃ ty, w = .arrayClass ty) := fun w hw => ⟨hw, good_of_word (List.mem_filter.mp hw).2⟩
  intro w hw
  rcases List.mem_cons.mp hw with e | e
  · subst e
    exact h _ hc
  · exact h _ e
theorem mm_run {p : Program} {l : Launch} {e : Env} {R : Room} {s : State} {m : MethodId} {args : Array Value} {below : List Frame} {meth : Method} {c : Code} {H : Heap} {locs : List Loc} {cells slots mc ms : Nat} {Q : State → Prop} {pc : Nat} {ls : Array Slot} {st0 rest : List Value} {a : Array Value} {D : va_G} {ad : Nat → Nat} {cy : Nat → ClassId} {A : Nat → Prop} {P : Option Value → mm_Mem → Prop}
    (hr : va_Run p l e R s m args below meth c H locs cells slots mc ms (F0 m pc ls st0) rest (mm_Qc D ad cy A P a) A) (hS : va_S A s.heap H locs)
    (kk : ∀ (r : Option Value) (M' : mm_Mem) (H1 : Heap) (locs1 : List Loc), P r M' → va_P D vwCl (mm_ws ad cy M') H1 → va_D A (mm_ws ad cy M') → va_S A s.heap H1 locs1 → W p l e R s m args below meth c H1 locs1 (cells + mc) (slots + ms) Q (F0 m (pc + 3) ls ((r.map (mm_cv ad)).toList ++ rest))) : W p l e R s m args below meth c H locs cells slots Q (F0 m pc ls st0) := by
  intro T hT X
  obtain ⟨v, st₀, t, T', L, h0, X', hL, e1, e2, ⟨⟨r, M', hp, hv, q1, q2⟩, hz, hk⟩, st⟩ := hr T hT X
  cases hv
  rw [h0] at hz hk
  obtain ⟨t2, a1, b1⟩ := kk r M' T'.heap (locs ++ L) hp (by rw [e1]; exact q1) q2
    ⟨Nat.le_trans hS.1 (by rw [e1]; exact hz), fun q h1 h2 => by rw [e1, hk q (Nat.lt_of_lt_of_le h1 hS.1) h2]; exact hS.2.1 q h1 h2, fun q hq => by
      rcases List.mem_append.mp hq with h | h
      · exact hS.2.2 q h
      · exact hL q h⟩ T' rfl X'
  exact ⟨t2, st t2 a1, b1⟩
/-- what the tables say of a callee -/
def mm_CB (y : mm_MR) (n : Nat) : Prop := Cond.code y.1 y.2.1 y.2.2.1 y.2.2.2 ∈ mm_WS ∧ Cond.initialized y.1.cls ∈ mm_WS ∧ (y.1.cls ≠ "java/lang/invoke/MethodHandle" ∧ y.1.cls ≠ "java/lang/invoke/VarHandle" ∧ (parseMethodDescriptor y.1.desc).map (fun d => d.parameters.length) = some n) ∧ y.2.2.1 ≤ 21
def mm_CV (own : String) (idx : Nat) (y : mm_MR) (n : Nat) : Prop := Cond.methodLink own idx y.1 ∈ mm_WS ∧ Cond.instanceMethod y.1 ∈ mm_WS ∧ Cond.selects y.1.cls y.1 y.1 ∈ mm_WS ∧ mm_CB y n
def mm_CVN (own : String) (idx : Nat) (y : mm_MR) (n : Nat) : Prop := (∃ host, Cond.methodLinkNest own idx y.1 host ∈ mm_NW) ∧ Cond.instanceMethod y.1 ∈ mm_WS ∧ Cond.selects y.1.cls y.1 y.1 ∈ mm_WS ∧ mm_CB y n
def mm_CS (own : String) (idx : Nat) (y : mm_MR) (n : Nat) : Prop := Cond.methodLink own idx y.1 ∈ mm_WS ∧ Cond.static y.1 ∈ mm_WS ∧ mm_CB y n
def mm_CSN (own : String) (idx : Nat) (y : mm_MR) (n : Nat) : Prop := (∃ host, Cond.methodLinkNest own idx y.1 host ∈ mm_NW) ∧ Cond.static y.1 ∈ mm_WS ∧ mm_CB y n
section MC
variable {y y' : mm_MR} {d d' n idx : Nat} {sc : mm_SC} {z : Nat × Nat} {pc : Nat} {ls st rest As : List Value} {M : mm_Mem} {Q P : Option Value → mm_Mem → Prop}
theorem mm_pre {D : va_G} {ad : Nat → Nat} {cy : Nat → ClassId} {A : Nat → Prop} {s : State} {H : Heap} {locs : List Loc} (hK : va_K D vwCl (mm_tys cy) s) (hN : mm_NWs s) (hE : mm_E A s s.heap) (hA : ∀ q, s.heap.size ≤ q → A q) (r1 : va_P D vwCl (mm_ws ad cy M) H) (r2 : va_D A (mm_ws ad cy M)) (r3 : va_S A s.heap H locs) : ∀ U : State, U.heap = H → s.WarmedH U.vm → mm_Pc D ad cy A As M (As.map (mm_cv ad)).toArray U := by
  intro U hU hW
  refine ⟨rfl, by rw [hU]; exact r1, r2, va_K.moved hW.alike hK, mm_NWs.warm hW hN, ?_, fun q h => hA q (Nat.le_trans r3.1 (by rw [← hU]; exact h))⟩
  rw [hU]
  exact mm_E.moved hW.alike (mm_E.kept hE (fun a h1 h2 => r3.2.1 a h1 h2))
theorem mm_recv {D : va_G} {ad : Nat → Nat} {cy : Nat → ClassId} {s : State} {H : Heap} {b ci : Nat} {fs : List Value} {C : String} (hK : va_K D vwCl (mm_tys cy) s) (r1 : va_P D vwCl (mm_ws ad cy M) H) (hb : b < mm_K) (hM : M b = mm_aO ci fs) (hci : (vwCl[ci]?).map (fun q => q.1) = some C) : ∃ cell : Cell, H[ad b]? = some cell ∧ cell.vm.isStatics = false ∧ s.vm.findClass C = some cell.cls := by
  cases h : vwCl[ci]? with
  | none => rw [h] at hci; cases hci
  | some q =>
    rw [h] at hci
    cases hci
    exact va_recv hK r1 h (mm_ob (D := D) hb hM)
theorem mm_invV {b ci : Nat} {fs : List Value} (hb0 : b < mm_K) (hM : M b = mm_aO ci fs) (hci : (vwCl[ci]?).map (fun q => q.1) = some y'.1.cls) (hd : decode y.2.1 pc = .ok (.invokevirtual idx, 3)) (hC : mm_CV y.1.cls idx y' n) (hs : mm_S d' y' 0 0 (.ref b :: As) M P) (hn : As.length = n) (hst : st = As.reverse ++ .ref b :: rest) (hrest : (rest.map fun v => v.category).sum ≤ 8) (hdd : d' + 1 ≤ d) (h : ∀ r M', P r M' → mm_X y d sc z (pc + 3) ls (r.toList ++ rest) M' Q) : mm_X y d sc z pc ls st M Q := by
  subst hst
  intro t Z C F H locs lsA hz1 hz2 hR hL
  obtain ⟨p, l, e, R, s, m, args, below, meth, c, D, ad, cy, A⟩ := t
  obtain ⟨hx, hb, hml, hr, hown, hts, hlk, hK, hN, hE, hA, hd1, hd2, hfl, hsc⟩ := C
  obtain ⟨r1, r2, r3⟩ := hR
  obtain ⟨c1, c2, c3, c4, c5, c6, c7⟩ := hC
  have cb : CallB R s args y.1.cls idx y'.1 y'.2.1 y'.2.2.1 y'.2.2.2 (mm_w y') (mm_rm d' 0 0) 0 0 n := callB_of n hts (mm_good y' c4) rfl rfl rfl (hts _ c5) (hts _ c1) c6 ⟨Nat.le_trans hdd hd1, by show 8 + (y'.2.2.1 + 11) + 40 * d' ≤ R.locals; omega⟩
  have hrest' : ((rest.map (mm_cv ad)).map fun v => v.category).sum ≤ 8 := by
    rw [List.map_map]
    rw [show ((fun v : Value => v.category) ∘ mm_cv ad) = fun v => v.category from funext fun v => mm_cat v]
    exact hrest
  refine mm_run (D := D) (ad := ad) (cy := cy) (P := P) (mc := 0) (ms := 0) (rest := rest.map (mm_cv ad)) (va_runV (b := ad b) (As := As.map (mm_cv ad)) ⟨hx, hb, hml, hown, hts⟩ (hs l D ad cy A hfl) ⟨cb, hts _ c2, hts _ c3⟩ ⟨mm_blind, mm_recv hK r1 hb0 hM hci, mm_pre (As := .ref b :: As) hK hN hE hA r1 r2 r3⟩ rfl (by rw [List.length_map]; exact hn) (by obtain ⟨-, l9, hv, -⟩ := hL; exact hv.1) (by simp [mm_cv, List.map_reverse]) (lv_room hrest') hd ⟨hz1, hz2⟩) r3 (fun r M' H1 locs1 hp q1 q2 q3 => ?_)
  have k := h r M' hp (p, l, e, R, s, m, args, below, meth, c, D, ad, cy, A) Z ⟨hx, hb, hml, hr, hown, hts, hlk, hK, hN, hE, hA, hd1, hd2, hfl, hsc⟩ F H1 locs1 lsA hz1 hz2 ⟨q1, q2, q3⟩ hL
  have e9 : (r.toList ++ rest).map (mm_cv ad) = (r.map (mm_cv ad)).toList ++ rest.map (mm_cv ad) := by cases r <;> simp
  dsimp only at k
  rw [e9] at k
  exact k
theorem mm_invVN {b ci : Nat} {fs : List Value} (hb0 : b < mm_K) (hM : M b = mm_aO ci fs) (hci : (vwCl[ci]?).map (fun q => q.1) = some y'.1.cls) (hd : decode y.2.1 pc = .ok (.invokevirtual idx, 3)) (hC : mm_CVN y.1.cls idx y' n) (hs : mm_S d' y' 0 0 (.ref b :: As) M P) (hn : As.length = n) (hst : st = As.reverse ++ .ref b :: rest) (hrest : (rest.map fun v => v.category).sum ≤ 8) (hdd : d' + 1 ≤ d) (h : ∀ r M', P r M' → mm_X y d sc z (pc + 3) ls (r.toList ++ rest) M' Q) : mm_X y d sc z pc ls st M Q := by
  subst hst
  intro t Z C F H locs lsA hz1 hz2 hR hL
  obtain ⟨p, l, e, R, s, m, args, below, meth, c, D, ad, cy, A⟩ := t
  obtain ⟨hx, hb, hml, hr, hown, hts, hlk, hK, hN, hE, hA, hd1, hd2, hfl, hsc⟩ := C
  obtain ⟨r1, r2, r3⟩ := hR
  obtain ⟨⟨host, c1⟩, c2, c3, c4, c5, c6, c7⟩ := hC
  have cb : va_CN R s args y.1.cls idx y'.1 host y'.2.1 y'.2.2.1 y'.2.2.2 (mm_w y') (mm_rm d' 0 0) 0 0 n := va_cnB n hts (mm_good y' c4) rfl rfl rfl (hN _ c1) (hts _ c5) c6 ⟨Nat.le_trans hdd hd1, by show 8 + (y'.2.2.1 + 11) + 40 * d' ≤ R.locals; omega⟩
  have hrest' : ((rest.map (mm_cv ad)).map fun v => v.category).sum ≤ 8 := by
    rw [List.map_map]
    rw [show ((fun v : Value => v.category) ∘ mm_cv ad) = fun v => v.category from funext fun v => mm_cat v]
    exact hrest
  refine mm_run (D := D) (ad := ad) (cy := cy) (P := P) (mc := 0) (ms := 0) (rest := rest.map (mm_cv ad)) (va_runVN (b := ad b) (As := As.map (mm_cv ad)) ⟨hx, hb, hml, hown, hts⟩ (hs l D ad cy A hfl) ⟨cb, hts _ c2, hts _ c3⟩ ⟨mm_blind, mm_recv hK r1 hb0 hM hci, mm_pre (As := .ref b :: As) hK hN hE hA r1 r2 r3⟩ rfl (by rw [List.length_map]; exact hn) (by obtain ⟨-, l9, hv, -⟩ := hL; exact hv.1) (by simp [mm_cv, List.map_reverse]) (lv_room hrest') hd ⟨hz1, hz2⟩) r3 (fun r M' H1 locs1 hp q1 q2 q3 => ?_)
  have k := h r M' hp (p, l, e, R, s, m, args, below, meth, c, D, ad, cy, A) Z ⟨hx, hb, hml, hr, hown, hts, hlk, hK, hN, hE, hA, hd1, hd2, hfl, hsc⟩ F H1 locs1 lsA hz1 hz2 ⟨q1, q2, q3⟩ hL
  have e9 : (r.toList ++ rest).map (mm_cv ad) = (r.map (mm_cv ad)).toList ++ rest.map (mm_cv ad) := by cases r <;> simp
  dsimp only at k
  rw [e9] at k
  exact k
theorem mm_invS (hd : decode y.2.1 pc = .ok (.invokestatic idx, 3)) (hC : mm_CS y.1.cls idx y' n) (hs : mm_S d' y' 0 0 As M P) (hn : As.length = n) (hst : st = As.reverse ++ rest) (hrest : (rest.map fun v => v.category).sum ≤ 8) (hdd : d' + 1 ≤ d) (h : ∀ r M', P r M' → mm_X y d sc z (pc + 3) ls (r.toList ++ rest) M' Q) : mm_X y d sc z pc ls st M Q := by
  subst hst
  intro t Z C F H locs lsA hz1 hz2 hR hL
  obtain ⟨p, l, e, R, s, m, args, below, meth, c, D, ad, cy, A⟩ := t
  obtain ⟨hx, hb, hml, hr, hown, hts, hlk, hK, hN, hE, hA, hd1, hd2, hfl, hsc⟩ := C
  obtain ⟨r1, r2, r3⟩ := hR
  obtain ⟨c1, c2, c4, c5, c6, c7⟩ := hC
  have cb : CallB R s args y.1.cls idx y'.1 y'.2.1 y'.2.2.1 y'.2.2.2 (mm_w y') (mm_rm d' 0 0) 0 0 n := callB_of n hts (mm_good y' c4) rfl rfl rfl (hts _ c5) (hts _ c1) c6 ⟨Nat.le_trans hdd hd1, by show 8 + (y'.2.2.1 + 11) + 40 * d' ≤ R.locals; omega⟩
  have hrest' : ((rest.map (mm_cv ad)).map fun v => v.category).sum ≤ 8 := by
    rw [List.map_map]
    rw [show ((fun v : Value => v.category) ∘ mm_cv ad) = fun v => v.category from funext fun v => mm_cat v]
    exact hrest
  refine mm_run (D := D) (ad := ad) (cy := cy) (P := P) (mc := 0) (ms := 0) (rest := rest.map (mm_cv ad)) (va_runS (As := As.map (mm_cv ad)) ⟨hx, hb, hml, hown, hts⟩ (hs l D ad cy A hfl) ⟨cb, hts _ c2⟩ ⟨mm_blind, mm_pre (As := As) hK hN hE hA r1 r2 r3⟩ rfl (by rw [List.length_map]; exact hn) (by obtain ⟨-, l9, hv, -⟩ := hL; exact hv.1) (by simp [List.map_reverse]) (lv_room hrest') hd ⟨hz1, hz2⟩) r3 (fun r M' H1 locs1 hp q1 q2 q3 => ?_)
  have k := h r M' hp (p, l, e, R, s, m, args, below, meth, c, D, ad, cy, A) Z ⟨hx, hb, hml, hr, hown, hts, hlk, hK, hN, hE, hA, hd1, hd2, hfl, hsc⟩ F H1 locs1 lsA hz1 hz2 ⟨q1, q2, q3⟩ hL
  have e9 : (r.toList ++ rest).map (mm_cv ad) = (r.map (mm_cv ad)).toList ++ rest.map (mm_cv ad) := by cases r <;> simp
  dsimp only at k
  rw [e9] at k
  exact k
theorem mm_invSN (hd : decode y.2.1 pc = .ok (.invokestatic idx, 3)) (hC : mm_CSN y.1.cls idx y' n) (hs : mm_S d' y' 0 0 As M P) (hn : As.length = n) (hst : st = As.reverse ++ rest) (hrest : (rest.map fun v => v.category).sum ≤ 8) (hdd : d' + 1 ≤ d) (h : ∀ r M', P r M' → mm_X y d sc z (pc + 3) ls (r.toList ++ rest) M' Q) : mm_X y d sc z pc ls st M Q := by
  subst hst
  intro t Z C F H locs lsA hz1 hz2 hR hL
  obtain ⟨p, l, e, R, s, m, args, below, meth, c, D, ad, cy, A⟩ := t
  obtain ⟨hx, hb, hml, hr, hown, hts, hlk, hK, hN, hE, hA, hd1, hd2, hfl, hsc⟩ := C
  obtain ⟨r1, r2, r3⟩ := hR
  obtain ⟨⟨host, c1⟩, c2, c4, c5, c6, c7⟩ := hC
  have cb : va_CN R s args y.1.cls idx y'.1 host y'.2.1 y'.2.2.1 y'.2.2.2 (mm_w y') (mm_rm d' 0 0) 0 0 n := va_cnB n hts (mm_good y' c4) rfl rfl rfl (hN _ c1) (hts _ c5) c6 ⟨Nat.le_trans hdd hd1, by show 8 + (y'.2.2.1 + 11) + 40 * d' ≤ R.locals; omega⟩
  have hrest' : ((rest.map (mm_cv ad)).map fun v => v.category).sum ≤ 8 := by
    rw [List.map_map]
    rw [show ((fun v : Value => v.category) ∘ mm_cv ad) = fun v => v.category from funext fun v => mm_cat v]
    exact hrest
  refine mm_run (D := D) (ad := ad) (cy := cy) (P := P) (mc := 0) (ms := 0) (rest := rest.map (mm_cv ad)) (va_runSN (As := As.map (mm_cv ad)) ⟨hx, hb, hml, hown, hts⟩ (hs l D ad cy A hfl) ⟨cb, hts _ c2, trivial⟩ ⟨mm_blind, mm_pre (As := As) hK hN hE hA r1 r2 r3⟩ rfl (by rw [List.length_map]; exact hn) (by obtain ⟨-, l9, hv, -⟩ := hL; exact hv.1) (by simp [List.map_reverse]) (lv_room hrest') hd ⟨hz1, hz2⟩) r3 (fun r M' H1 locs1 hp q1 q2 q3 => ?_)
  have k := h r M' hp (p, l, e, R, s, m, args, below, meth, c, D, ad, cy, A) Z ⟨hx, hb, hml, hr, hown, hts, hlk, hK, hN, hE, hA, hd1, hd2, hfl, hsc⟩ F H1 locs1 lsA hz1 hz2 ⟨q1, q2, q3⟩ hL
  have e9 : (r.toList ++ rest).map (mm_cv ad) = (r.map (mm_cv ad)).toList ++ rest.map (mm_cv ad) := by cases r <;> simp
  dsimp only at k
  rw [e9] at k
  exact k
end MC
/-- a call as the next step: some contract of the callee, and what follows its answer -/
def mm_Call (d : Nat) (y : mm_MR) (av : List Value) (M : mm_Mem) (K : Option Value → mm_Mem → Prop) : Prop := ∃ (d' : Nat) (P : Option Value → mm_Mem → Prop), d' + 1 ≤ d ∧ mm_S d' y 0 0 av M P ∧ ∀ r M', P r M' → K r M'
theorem mm_Call.of {d d' : Nat} {y : mm_MR} {av : List Value} {M : mm_Mem} {K P : Option Value → mm_Mem → Prop} (hs : mm_S d' y 0 0 av M P) (hd : d' + 1 ≤ d) (h : ∀ r M', P r M' → K r M') : mm_Call d y av M K := ⟨d', P, hd, hs, h⟩
/-- a contract that says the answer and the memory -/
abbrev mm_Eq (v : Option Value) (M1 : mm_Mem) : Option Value → mm_Mem → Prop := fun r M' => r = v ∧ M' = M1
theorem mm_Call.eq {d d' : Nat} {y : mm_MR} {av : List Value} {M M1 : mm_Mem} {v : Option Value} {K : Option Value → mm_Mem → Prop} (hs : mm_S d' y 0 0 av M (mm_Eq v M1)) (hd : d' + 1 ≤ d) (h : K v M1) : mm_Call d y av M K := ⟨d', _, hd, hs, fun r M' q => by obtain ⟨e1, e2⟩ := q; subst e1; subst e2; exact h⟩
def mm_at (M : mm_Mem) (a : Nat) (c : mm_AC) : Prop := a < mm_K ∧ M a = c
theorem mm_at.s {M : mm_Mem} {a : Nat} {c : mm_AC} (h : a < mm_K) : mm_at (mm_up M a c) a c := ⟨h, mm_up_s⟩
theorem mm_at.n {M : mm_Mem} {a b : Nat} {c c' : mm_AC} (h : mm_at M b c) (hn : b ≠ a) : mm_at (mm_up M a c') b c := ⟨h.1, (mm_up_n hn).trans h.2⟩
