/-! FIELDS ONE BY ONE: for objects of many fields -/
def mm_fd (M : mm_Mem) (a ci k : Nat) (v : Value) : Prop := a < mm_K ∧ ∃ fs, M a = mm_aO ci fs ∧ fs[k]? = some v
def mm_rc (M : mm_Mem) (a ci : Nat) : Prop := a < mm_K ∧ ∃ fs, M a = mm_aO ci fs
def mm_upF (M : mm_Mem) (a k : Nat) (v : Value) : mm_Mem := match M a with
  | .inr (.inr (.inr (ci, fs))) => mm_up M a (mm_aO ci (fs.set k v))
  | _ => M
theorem mm_upF_eq {M : mm_Mem} {a ci k : Nat} {v : Value} {fs : List Value} (h : M a = mm_aO ci fs) : mm_upF M a k v = mm_up M a (mm_aO ci (fs.set k v)) := by
  unfold mm_upF
  rw [h]
theorem mm_upF_n {M : mm_Mem} {a b k : Nat} {v : Value} (h : b ≠ a) : mm_upF M a k v b = M b := by
  unfold mm_upF
  rcases e : M a with x | x | x | ⟨ci, fs⟩
  · rfl
  · rfl
  · rfl
  · exact mm_up_n h
theorem mm_at.fd {M : mm_Mem} {a ci k : Nat} {fs : List Value} {v : Value} (h : mm_at M a (mm_aO ci fs)) (hv : fs[k]? = some v) : mm_fd M a ci k v := ⟨h.1, fs, h.2, hv⟩
theorem mm_at.rc {M : mm_Mem} {a ci : Nat} {fs : List Value} (h : mm_at M a (mm_aO ci fs)) : mm_rc M a ci := ⟨h.1, fs, h.2⟩
theorem mm_fd.rc {M : mm_Mem} {a ci k : Nat} {v : Value} (h : mm_fd M a ci k v) : mm_rc M a ci := ⟨h.1, h.2.choose, h.2.choose_spec.1⟩
theorem mm_at.nF {M : mm_Mem} {a b k : Nat} {v : Value} {c : mm_AC} (h : mm_at M b c) (hn : b ≠ a) : mm_at (mm_upF M a k v) b c := ⟨h.1, (mm_upF_n hn).trans h.2⟩
theorem mm_fd.o {M : mm_Mem} {a b ci k : Nat} {v : Value} {c : mm_AC} (h : mm_fd M b ci k v) (hn : b ≠ a) : mm_fd (mm_up M a c) b ci k v := by
  obtain ⟨h1, fs, h2, h3⟩ := h
  exact ⟨h1, fs, (mm_up_n hn).trans h2, h3⟩
theorem mm_fd.oF {M : mm_Mem} {a b ci k k' : Nat} {v w : Value} (h : mm_fd M b ci k v) (hn : b ≠ a) : mm_fd (mm_upF M a k' w) b ci k v := by
  obtain ⟨h1, fs, h2, h3⟩ := h
  exact ⟨h1, fs, (mm_upF_n hn).trans h2, h3⟩
theorem mm_fd.s {M : mm_Mem} {a ci k : Nat} {v w : Value} (h : mm_fd M a ci k v) : mm_fd (mm_upF M a k w) a ci k w := by
  obtain ⟨h1, fs, h2, h3⟩ := h
  refine ⟨h1, _, by rw [mm_upF_eq h2, mm_up_s], ?_⟩
  rw [List.getElem?_set_self (List.getElem?_eq_some_iff.mp h3).1]
theorem mm_fd.n {M : mm_Mem} {a ci k k' : Nat} {v w : Value} (h : mm_fd M a ci k v) (hn : k' ≠ k) : mm_fd (mm_upF M a k' w) a ci k v := by
  obtain ⟨h1, fs, h2, h3⟩ := h
  refine ⟨h1, _, by rw [mm_upF_eq h2, mm_up_s], ?_⟩
  rw [List.getElem?_set_ne hn, h3]
theorem mm_rc.o {M : mm_Mem} {a b ci : Nat} {c : mm_AC} (h : mm_rc M b ci) (hn : b ≠ a) : mm_rc (mm_up M a c) b ci := by
  obtain ⟨h1, fs, h2⟩ := h
  exact ⟨h1, fs, (mm_up_n hn).trans h2⟩
theorem mm_rc.F {M : mm_Mem} {a b ci k' : Nat} {w : Value} (h : mm_rc M b ci) : mm_rc (mm_upF M a k' w) b ci := by
  obtain ⟨h1, fs, h2⟩ := h
  by_cases e : b = a
  · subst e
    exact ⟨h1, _, by rw [mm_upF_eq h2, mm_up_s]⟩
  · exact ⟨h1, fs, (mm_upF_n e).trans h2⟩
section M2
variable {y y' : mm_MR} {d d' n idx : Nat} {sc : mm_SC} {z : Nat × Nat} {pc : Nat} {ls st rest As : List Value} {M : mm_Mem} {Q P : Option Value → mm_Mem → Prop}
theorem mm_getF {a idx ci k : Nat} {v : Value} (hd : decode y.2.1 pc = .ok (.getfield idx, 3)) (hF : mm_FS y.1.cls idx ci k) (hf : mm_fd M a ci k v) (h : mm_X y d sc z (pc + 3) ls (v :: st) M Q) : mm_X y d sc z pc ls (.ref a :: st) M Q := by
  obtain ⟨h1, fs, h2, h3⟩ := hf
  exact mm_getfield hd hF h1 h2 h3 h
theorem mm_putiF {a idx ci k : Nat} {w : Value} {x : Int32} (hd : decode y.2.1 pc = .ok (.putfield idx, 3)) (hF : mm_FI y.1.cls idx ci k) (hf : mm_fd M a ci k w) (h : mm_X y d sc z (pc + 3) ls st (mm_upF M a k (.int x)) Q) : mm_X y d sc z pc ls (.int x :: .ref a :: st) M Q := by
  obtain ⟨h1, fs, h2, h3⟩ := hf
  exact mm_puti hd hF h1 h2 (List.getElem?_eq_some_iff.mp h3).1 (by rw [mm_upF_eq h2] at h; exact h)
theorem mm_putlF {a idx ci k : Nat} {w : Value} {x : Int64} (hd : decode y.2.1 pc = .ok (.putfield idx, 3)) (hF : mm_FL y.1.cls idx ci k) (hf : mm_fd M a ci k w) (h : mm_X y d sc z (pc + 3) ls st (mm_upF M a k (.long x)) Q) : mm_X y d sc z pc ls (.long x :: .ref a :: st) M Q := by
  obtain ⟨h1, fs, h2, h3⟩ := hf
  exact mm_putl hd hF h1 h2 (List.getElem?_eq_some_iff.mp h3).1 (by rw [mm_upF_eq h2] at h; exact h)
theorem mm_invVF {b ci : Nat} (hr : mm_rc M b ci) (hci : (vwCl[ci]?).map (fun q => q.1) = some y'.1.cls) (hd : decode y.2.1 pc = .ok (.invokevirtual idx, 3)) (hC : mm_CV y.1.cls idx y' n) (hs : mm_S d' y' 0 0 (.ref b :: As) M P) (hn : As.length = n) (hst : st = As.reverse ++ .ref b :: rest) (hrest : (rest.map fun v => v.category).sum ≤ 8) (hdd : d' + 1 ≤ d) (h : ∀ r M', P r M' → mm_X y d sc z (pc + 3) ls (r.toList ++ rest) M' Q) : mm_X y d sc z pc ls st M Q := by
  obtain ⟨h1, fs, h2⟩ := hr
  exact mm_invV h1 h2 hci hd hC hs hn hst hrest hdd h
theorem mm_invVNF {b ci : Nat} (hr : mm_rc M b ci) (hci : (vwCl[ci]?).map (fun q => q.1) = some y'.1.cls) (hd : decode y.2.1 pc = .ok (.invokevirtual idx, 3)) (hC : mm_CVN y.1.cls idx y' n) (hs : mm_S d' y' 0 0 (.ref b :: As) M P) (hn : As.length = n) (hst : st = As.reverse ++ .ref b :: rest) (hrest : (rest.map fun v => v.category).sum ≤ 8) (hdd : d' + 1 ≤ d) (h : ∀ r M', P r M' → mm_X y d sc z (pc + 3) ls (r.toList ++ rest) M' Q) : mm_X y d sc z pc ls st M Q := by
  obtain ⟨h1, fs, h2⟩ := hr
  exact mm_invVN h1 h2 hci hd hC hs hn hst hrest hdd h
end M2
theorem mm_Call.use {d : Nat} {y : mm_MR} {av : List Value} {M : mm_Mem} {K : Option Value → mm_Mem → Prop} {G : Prop} (h : mm_Call d y av M K) (k : ∀ (d' : Nat) (P : Option Value → mm_Mem → Prop), d' + 1 ≤ d → mm_S d' y 0 0 av M P → (∀ r M', P r M' → K r M') → G) : G := by
  obtain ⟨d', P, h1, h2, h3⟩ := h
  exact k d' P h1 h2 h3
theorem mm_ti {x w : Int32} {k : Int} (h : ¬ x = w) (hw : w.toInt = k) : ¬ x.toInt = k := fun e => h (Int32.toInt_inj.mp (e.trans hw.symm))
section M3
variable {y y' : mm_MR} {d d' n idx : Nat} {sc : mm_SC} {z : Nat × Nat} {pc : Nat} {ls st rest As : List Value} {M M1 : mm_Mem} {Q : Option Value → mm_Mem → Prop}
theorem mm_eqk {K : Option Value → mm_Mem → Prop} {v : Option Value} (h : K v M1) : ∀ r M', mm_Eq v M1 r M' → K r M' := by
  intro r M' q
  obtain ⟨e1, e2⟩ := q
  subst e1
  subst e2
  exact h
theorem mm_invVF1 {v : Value} {b ci : Nat} (hr : mm_rc M b ci) (hci : (vwCl[ci]?).map (fun q => q.1) = some y'.1.cls) (hd : decode y.2.1 pc = .ok (.invokevirtual idx, 3)) (hC : mm_CV y.1.cls idx y' n) (hs : mm_S d' y' 0 0 (.ref b :: As) M (mm_Eq (some v) M1)) (hn : As.length = n) (hst : st = As.reverse ++ .ref b :: rest) (hrest : (rest.map fun v => v.category).sum ≤ 8) (hdd : d' + 1 ≤ d) (h : mm_X y d sc z (pc + 3) ls (v :: rest) M1 Q) : mm_X y d sc z pc ls st M Q :=
  mm_invVF hr hci hd hC hs hn hst hrest hdd (mm_eqk (K := fun r M' => mm_X y d sc z (pc + 3) ls (r.toList ++ rest) M' Q) h)
theorem mm_invVF0 {b ci : Nat} (hr : mm_rc M b ci) (hci : (vwCl[ci]?).map (fun q => q.1) = some y'.1.cls) (hd : decode y.2.1 pc = .ok (.invokevirtual idx, 3)) (hC : mm_CV y.1.cls idx y' n) (hs : mm_S d' y' 0 0 (.ref b :: As) M (mm_Eq none M1)) (hn : As.length = n) (hst : st = As.reverse ++ .ref b :: rest) (hrest : (rest.map fun v => v.category).sum ≤ 8) (hdd : d' + 1 ≤ d) (h : mm_X y d sc z (pc + 3) ls rest M1 Q) : mm_X y d sc z pc ls st M Q :=
  mm_invVF hr hci hd hC hs hn hst hrest hdd (mm_eqk (K := fun r M' => mm_X y d sc z (pc + 3) ls (r.toList ++ rest) M' Q) h)
theorem mm_invVNF1 {v : Value} {b ci : Nat} (hr : mm_rc M b ci) (hci : (vwCl[ci]?).map (fun q => q.1) = some y'.1.cls) (hd : decode y.2.1 pc = .ok (.invokevirtual idx, 3)) (hC : mm_CVN y.1.cls idx y' n) (hs : mm_S d' y' 0 0 (.ref b :: As) M (mm_Eq (some v) M1)) (hn : As.length = n) (hst : st = As.reverse ++ .ref b :: rest) (hrest : (rest.map fun v => v.category).sum ≤ 8) (hdd : d' + 1 ≤ d) (h : mm_X y d sc z (pc + 3) ls (v :: rest) M1 Q) : mm_X y d sc z pc ls st M Q :=
  mm_invVNF hr hci hd hC hs hn hst hrest hdd (mm_eqk (K := fun r M' => mm_X y d sc z (pc + 3) ls (r.toList ++ rest) M' Q) h)
theorem mm_invVNF0 {b ci : Nat} (hr : mm_rc M b ci) (hci : (vwCl[ci]?).map (fun q => q.1) = some y'.1.cls) (hd : decode y.2.1 pc = .ok (.invokevirtual idx, 3)) (hC : mm_CVN y.1.cls idx y' n) (hs : mm_S d' y' 0 0 (.ref b :: As) M (mm_Eq none M1)) (hn : As.length = n) (hst : st = As.reverse ++ .ref b :: rest) (hrest : (rest.map fun v => v.category).sum ≤ 8) (hdd : d' + 1 ≤ d) (h : mm_X y d sc z (pc + 3) ls rest M1 Q) : mm_X y d sc z pc ls st M Q :=
  mm_invVNF hr hci hd hC hs hn hst hrest hdd (mm_eqk (K := fun r M' => mm_X y d sc z (pc + 3) ls (r.toList ++ rest) M' Q) h)
theorem mm_invS1 {v : Value} (hd : decode y.2.1 pc = .ok (.invokestatic idx, 3)) (hC : mm_CS y.1.cls idx y' n) (hs : mm_S d' y' 0 0 As M (mm_Eq (some v) M1)) (hn : As.length = n) (hst : st = As.reverse ++ rest) (hrest : (rest.map fun v => v.category).sum ≤ 8) (hdd : d' + 1 ≤ d) (h : mm_X y d sc z (pc + 3) ls (v :: rest) M1 Q) : mm_X y d sc z pc ls st M Q :=
  mm_invS hd hC hs hn hst hrest hdd (mm_eqk (K := fun r M' => mm_X y d sc z (pc + 3) ls (r.toList ++ rest) M' Q) h)
theorem mm_invS0 (hd : decode y.2.1 pc = .ok (.invokestatic idx, 3)) (hC : mm_CS y.1.cls idx y' n) (hs : mm_S d' y' 0 0 As M (mm_Eq none M1)) (hn : As.length = n) (hst : st = As.reverse ++ rest) (hrest : (rest.map fun v => v.category).sum ≤ 8) (hdd : d' + 1 ≤ d) (h : mm_X y d sc z (pc + 3) ls rest M1 Q) : mm_X y d sc z pc ls st M Q :=
  mm_invS hd hC hs hn hst hrest hdd (mm_eqk (K := fun r M' => mm_X y d sc z (pc + 3) ls (r.toList ++ rest) M' Q) h)
theorem mm_invSN1 {v : Value} (hd : decode y.2.1 pc = .ok (.invokestatic idx, 3)) (hC : mm_CSN y.1.cls idx y' n) (hs : mm_S d' y' 0 0 As M (mm_Eq (some v) M1)) (hn : As.length = n) (hst : st = As.reverse ++ rest) (hrest : (rest.map fun v => v.category).sum ≤ 8) (hdd : d' + 1 ≤ d) (h : mm_X y d sc z (pc + 3) ls (v :: rest) M1 Q) : mm_X y d sc z pc ls st M Q :=
  mm_invSN hd hC hs hn hst hrest hdd (mm_eqk (K := fun r M' => mm_X y d sc z (pc + 3) ls (r.toList ++ rest) M' Q) h)
theorem mm_invSN0 (hd : decode y.2.1 pc = .ok (.invokestatic idx, 3)) (hC : mm_CSN y.1.cls idx y' n) (hs : mm_S d' y' 0 0 As M (mm_Eq none M1)) (hn : As.length = n) (hst : st = As.reverse ++ rest) (hrest : (rest.map fun v => v.category).sum ≤ 8) (hdd : d' + 1 ≤ d) (h : mm_X y d sc z (pc + 3) ls rest M1 Q) : mm_X y d sc z pc ls st M Q :=
  mm_invSN hd hC hs hn hst hrest hdd (mm_eqk (K := fun r M' => mm_X y d sc z (pc + 3) ls (r.toList ++ rest) M' Q) h)
end M3
theorem mm_vin {i : Int32} {n : Nat} (h0 : ¬ i < 0) (h1 : ¬ Int32.ofNat n ≤ i) : vp_in i n := by
  rintro (h | h)
  · exact h0 h
  · apply h1
    rw [Int32.le_iff_toInt_le]
    have h2 : 0 ≤ i.toInt := by
      have := mt Int32.lt_iff_toInt_lt.mpr h0
      simpa using this
    have h3 : (i.toNatClampNeg : Int) = i.toInt := by
      show ((i.toInt.toNat : Nat) : Int) = _
      omega
    have h4 : i.toInt < 2 ^ 31 := i.toInt_lt
    have h5 : (Int32.ofNat n).toInt = (n : Int) := Int32.toInt_ofNat_of_lt (by omega)
    omega
section M4
variable {y : mm_MR} {d idx : Nat} {sc : mm_SC} {z : Nat × Nat} {pc : Nat} {ls st : List Value} {M : mm_Mem} {Q : Option Value → mm_Mem → Prop}
theorem mm_cats {ad : Nat → Nat} (rest : List Value) : ((rest.map (mm_cv ad)).map fun v => v.category) = rest.map fun v => v.category := by
  rw [List.map_map]
  rw [show ((fun v : Value => v.category) ∘ mm_cv ad) = fun v => v.category from funext fun v => mm_cat v]
theorem mm_mmax {x w : Int32} (hd : decode y.2.1 pc = .ok (.invokestatic idx, 3)) (hl : Cond.methodLink y.1.cls idx Lib.Math.max.name ∈ mm_WS) (hs : Cond.static Lib.Math.max.name ∈ mm_WS) (hi : Cond.initialized "java/lang/Math" ∈ mm_WS) (hc : Cond.code Lib.Math.max.name Lib.Math.max.code 2 (some .int) ∈ mm_WS) (hrest : (st.map fun v => v.category).sum ≤ 8) (hdd : 1 ≤ d) (h : mm_X y d sc z (pc + 3) ls (.int (if x < w then w else x) :: st) M Q) : mm_X y d sc z pc ls (.int w :: .int x :: st) M Q := by
  intro t Z C F H locs lsA hz1 hz2 hR hL
  have K := h t Z C F H locs lsA hz1 hz2 hR hL
  obtain ⟨p, l, e, R, s, m, args, below, meth, c, D, ad, cy, A⟩ := t
  obtain ⟨hx, hb, hml, hr, hown, hts, hlk, hK, hN, hE, hA, hd1, hd2, hfl, hsc⟩ := C
  obtain ⟨hn, l9, hv, hm⟩ := hL
  refine va_mmax hx hb (hml.trans hv.1.symm) hown (hts _ hl) (hts _ hs) (hts _ hi) (hts _ hc) (Nat.le_trans hdd hd1) ?_ hz1 hz2 hd ?_
  · rw [mm_cats]
    omega
  · exact K
theorem mm_mmin {x w : Int32} (hd : decode y.2.1 pc = .ok (.invokestatic idx, 3)) (hl : Cond.methodLink y.1.cls idx Lib.Math.min.name ∈ mm_WS) (hs : Cond.static Lib.Math.min.name ∈ mm_WS) (hi : Cond.initialized "java/lang/Math" ∈ mm_WS) (hc : Cond.code Lib.Math.min.name Lib.Math.min.code 2 (some .int) ∈ mm_WS) (hrest : (st.map fun v => v.category).sum ≤ 8) (hdd : 1 ≤ d) (h : mm_X y d sc z (pc + 3) ls (.int (if w < x then w else x) :: st) M Q) : mm_X y d sc z pc ls (.int w :: .int x :: st) M Q := by
  intro t Z C F H locs lsA hz1 hz2 hR hL
  have K := h t Z C F H locs lsA hz1 hz2 hR hL
  obtain ⟨p, l, e, R, s, m, args, below, meth, c, D, ad, cy, A⟩ := t
  obtain ⟨hx, hb, hml, hr, hown, hts, hlk, hK, hN, hE, hA, hd1, hd2, hfl, hsc⟩ := C
  obtain ⟨hn, l9, hv, hm⟩ := hL
  refine va_mmin hx hb (hml.trans hv.1.symm) hown (hts _ hl) (hts _ hs) (hts _ hi) (hts _ hc) (Nat.le_trans hdd hd1) ?_ hz1 hz2 hd ?_
  · rw [mm_cats]
    omega
  · exact K
end M4
/-- locals of which less is known -/
def mm_wk : List Value → List Value → Prop
  | [], [] => True
  | a :: l, b :: m => (b = .null ∨ a = b) ∧ mm_wk l m
  | _, _ => False
theorem mm_wk_len : ∀ {l m : List Value}, mm_wk l m → l.length = m.length
  | [], [], _ => rfl
  | _ :: _, _ :: _, h => congrArg (· + 1) (mm_wk_len h.2)
  | [], _ :: _, h => h.elim
  | _ :: _, [], h => h.elim
theorem mm_wk_at : ∀ {l m : List Value}, mm_wk l m → ∀ (i : Nat) (v : Value), m[i]? = some v → v ≠ .null → l[i]? = some v
  | [], [], _, i, v, h, _ => by simp at h
  | a :: l, b :: m, h, 0, v, hi, hv => by
    rw [List.getElem?_cons_zero] at hi ⊢
    cases hi
    rcases h.1 with q | q
    · exact absurd q hv
    · rw [q]
  | a :: l, b :: m, h, i + 1, v, hi, hv => by
    rw [List.getElem?_cons_succ] at hi ⊢
    exact mm_wk_at h.2 i v hi hv
  | [], _ :: _, h, _, _, _, _ => h.elim
  | _ :: _, [], h, _, _, _, _ => h.elim
theorem mm_weak {y : mm_MR} {d : Nat} {sc : mm_SC} {z : Nat × Nat} {pc : Nat} {ls ls' st : List Value} {M : mm_Mem} {Q : Option Value → mm_Mem → Prop} (h : mm_X y d sc z pc ls' st M Q) (hw : mm_wk ls ls') : mm_X y d sc z pc ls st M Q := by
  intro t Z C F H locs lsA hz1 hz2 hR hL
  refine h t Z C F H locs lsA hz1 hz2 hR ?_
  obtain ⟨hn, l, h1, h2⟩ := hL
  exact ⟨(mm_wk_len hw).symm.trans hn, l, h1, fun i v hi hv => h2 i v (mm_wk_at hw i v hi hv) hv⟩
