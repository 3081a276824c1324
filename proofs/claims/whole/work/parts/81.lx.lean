/-! THE LAW'S BODY: the judgement with the words of a throw beside it, and the rows that the law needs (the same proofs) -/
def lx_Cx (y : mm_MR) (d : Nat) (sc : mm_SC) (t : mm_T) : Prop := mm_Cx y d sc t ∧ vt_B t.2.2.2.2.1
def lx_X (y : mm_MR) (d : Nat) (sc : mm_SC) (z : Nat × Nat) (pc : Nat) (ls st : List Value) (M : mm_Mem) (Q : Option Value → mm_Mem → Prop) : Prop :=
  ∀ (t : mm_T) (Z : State → Prop), lx_Cx y d sc t → mm_F y t Z Q → ∀ (H : Heap) (locs : List Loc) (lsA : Array Slot), z.1 ≤ t.2.2.2.1.cells → z.2 ≤ t.2.2.2.1.slots → mm_R t M H locs → mm_L t.2.2.2.2.2.2.2.2.2.2.2.1 y.2.2.1 lsA ls → mm_W t H locs z Z pc lsA (st.map (mm_cv t.2.2.2.2.2.2.2.2.2.2.2.1))
section LX
variable {y : mm_MR} {d : Nat} {sc : mm_SC} {z : Nat × Nat} {pc : Nat} {ls st : List Value} {M : mm_Mem} {Q : Option Value → mm_Mem → Prop}
theorem lx_iconst {n : Int} {v : Int32} (hd : decode y.2.1 pc = .ok (.iconst n, 1)) (hv : Int32.ofInt n = v) (h : lx_X y d sc z (pc + 1) ls (.int v :: st) M Q) : lx_X y d sc z pc ls (st) M Q := by
  intro t Z C F H locs lsA hz1 hz2 hR hL
  have K := h t Z C F H locs lsA hz1 hz2 hR hL
  obtain ⟨p, l, e, R, s, m, args, below, meth, c, D, ad, cy, A⟩ := t
  obtain ⟨⟨hx, hb, hml, hr, hown, hts, hlk, hK, hN, hE, hA, hd1, hd2, hfl, hsc⟩, hvt⟩ := C
  exact lv_iconst hx hb hd hv K
theorem lx_bipush {n : Int} {v : Int32} (hd : decode y.2.1 pc = .ok (.bipush n, 2)) (hv : (Int8.ofInt n).toInt32 = v) (h : lx_X y d sc z (pc + 2) ls (.int v :: st) M Q) : lx_X y d sc z pc ls (st) M Q := by
  intro t Z C F H locs lsA hz1 hz2 hR hL
  have K := h t Z C F H locs lsA hz1 hz2 hR hL
  obtain ⟨p, l, e, R, s, m, args, below, meth, c, D, ad, cy, A⟩ := t
  obtain ⟨⟨hx, hb, hml, hr, hown, hts, hlk, hK, hN, hE, hA, hd1, hd2, hfl, hsc⟩, hvt⟩ := C
  exact lv_bipush hx hb hd hv K
theorem lx_iload {i : Nat} {x : Int32} (hd : decode y.2.1 pc = .ok (.iload i, 2)) (hl : ls[i]? = some (.int x)) (h : lx_X y d sc z (pc + 2) ls (.int x :: st) M Q) : lx_X y d sc z pc ls (st) M Q := by
  intro t Z C F H locs lsA hz1 hz2 hR hL
  have K := h t Z C F H locs lsA hz1 hz2 hR hL
  obtain ⟨p, l, e, R, s, m, args, below, meth, c, D, ad, cy, A⟩ := t
  obtain ⟨⟨hx, hb, hml, hr, hown, hts, hlk, hK, hN, hE, hA, hd1, hd2, hfl, hsc⟩, hvt⟩ := C
  exact lv_iload hx hb hd (mm_ld hL hl (fun q => by cases q)) K
theorem lx_aload_n {k : Fin 4} {x : Nat} (hd : decode y.2.1 pc = .ok (.aload_n k, 1)) (hl : ls[(k : Nat)]? = some (.ref x)) (h : lx_X y d sc z (pc + 1) ls (.ref x :: st) M Q) : lx_X y d sc z pc ls (st) M Q := by
  intro t Z C F H locs lsA hz1 hz2 hR hL
  have K := h t Z C F H locs lsA hz1 hz2 hR hL
  obtain ⟨p, l, e, R, s, m, args, below, meth, c, D, ad, cy, A⟩ := t
  obtain ⟨⟨hx, hb, hml, hr, hown, hts, hlk, hK, hN, hE, hA, hd1, hd2, hfl, hsc⟩, hvt⟩ := C
  exact lv_aload_n hx hb hd rfl (mm_ld hL hl (fun q => by cases q)) K
theorem lx_aload {i : Nat} {x : Nat} (hd : decode y.2.1 pc = .ok (.aload i, 2)) (hl : ls[i]? = some (.ref x)) (h : lx_X y d sc z (pc + 2) ls (.ref x :: st) M Q) : lx_X y d sc z pc ls (st) M Q := by
  intro t Z C F H locs lsA hz1 hz2 hR hL
  have K := h t Z C F H locs lsA hz1 hz2 hR hL
  obtain ⟨p, l, e, R, s, m, args, below, meth, c, D, ad, cy, A⟩ := t
  obtain ⟨⟨hx, hb, hml, hr, hown, hts, hlk, hK, hN, hE, hA, hd1, hd2, hfl, hsc⟩, hvt⟩ := C
  exact lv_aload hx hb hd (mm_ld hL hl (fun q => by cases q)) K
theorem lx_istore {i : Nat} {x : Int32} (hd : decode y.2.1 pc = .ok (.istore i, 2)) (hs1 : mm_st1 ls i = true) (h : lx_X y d sc z (pc + 2) (ls.set i (.int x)) st M Q) : lx_X y d sc z pc ls (.int x :: st) M Q := by
  intro t Z C F H locs lsA hz1 hz2 hR hL
  obtain ⟨p, l, e, R, s, m, args, below, meth, c, D, ad, cy, A⟩ := t
  obtain ⟨⟨hx, hb, hml, hr, hown, hts, hlk, hK, hN, hE, hA, hd1, hd2, hfl, hsc⟩, hvt⟩ := C
  obtain ⟨hn, l9, hv, hm⟩ := id hL
  refine lv_istore hx hb hd hv (by have := (mm_st1_of hs1).1; omega) rfl (fun lsB hB => ?_)
  exact h (p, l, e, R, s, m, args, below, meth, c, D, ad, cy, A) Z ⟨⟨hx, hb, hml, hr, hown, hts, hlk, hK, hN, hE, hA, hd1, hd2, hfl, hsc⟩, hvt⟩ F H locs lsB hz1 hz2 hR (mm_L.set1 (lsA := lsA) hn hm hs1 hB)
theorem lx_iinc {i : Nat} {n : Int} {x : Int32} (hd : decode y.2.1 pc = .ok (.iinc i n, 3)) (hl : ls[i]? = some (.int x)) {w : Int32} (hw : Int32.ofInt n = w) (hs1 : mm_st1 ls i = true) (h : lx_X y d sc z (pc + 3) (ls.set i (.int (x + w))) st M Q) : lx_X y d sc z pc ls st M Q := by
  intro t Z C F H locs lsA hz1 hz2 hR hL
  obtain ⟨p, l, e, R, s, m, args, below, meth, c, D, ad, cy, A⟩ := t
  obtain ⟨⟨hx, hb, hml, hr, hown, hts, hlk, hK, hN, hE, hA, hd1, hd2, hfl, hsc⟩, hvt⟩ := C
  subst hw
  obtain ⟨hn, l9, hv, hm⟩ := id hL
  obtain ⟨k9, hk9⟩ := List.getElem?_of_mem (hm i _ hl (fun q => by cases q))
  refine lv_iinc hx hb hd hv hk9 rfl (by have := (mm_st1_of hs1).1; omega) rfl (fun lsB hB => ?_)
  exact h (p, l, e, R, s, m, args, below, meth, c, D, ad, cy, A) Z ⟨⟨hx, hb, hml, hr, hown, hts, hlk, hK, hN, hE, hA, hd1, hd2, hfl, hsc⟩, hvt⟩ F H locs lsB hz1 hz2 hR (mm_L.set1 (lsA := lsA) hn hm hs1 hB)
theorem lx_iadd {x w : Int32} (hd : decode y.2.1 pc = .ok (.iadd, 1)) (h : lx_X y d sc z (pc + 1) ls (.int (x + w) :: st) M Q) : lx_X y d sc z pc ls (.int w :: .int x :: st) M Q := by
  intro t Z C F H locs lsA hz1 hz2 hR hL
  have K := h t Z C F H locs lsA hz1 hz2 hR hL
  obtain ⟨p, l, e, R, s, m, args, below, meth, c, D, ad, cy, A⟩ := t
  obtain ⟨⟨hx, hb, hml, hr, hown, hts, hlk, hK, hN, hE, hA, hd1, hd2, hfl, hsc⟩, hvt⟩ := C
  exact lv_iadd hx hb hd K
theorem lx_isub {x w : Int32} (hd : decode y.2.1 pc = .ok (.isub, 1)) (h : lx_X y d sc z (pc + 1) ls (.int (x - w) :: st) M Q) : lx_X y d sc z pc ls (.int w :: .int x :: st) M Q := by
  intro t Z C F H locs lsA hz1 hz2 hR hL
  have K := h t Z C F H locs lsA hz1 hz2 hR hL
  obtain ⟨p, l, e, R, s, m, args, below, meth, c, D, ad, cy, A⟩ := t
  obtain ⟨⟨hx, hb, hml, hr, hown, hts, hlk, hK, hN, hE, hA, hd1, hd2, hfl, hsc⟩, hvt⟩ := C
  exact lv_isub hx hb hd K
theorem lx_iand {x w : Int32} (hd : decode y.2.1 pc = .ok (.iand, 1)) (h : lx_X y d sc z (pc + 1) ls (.int (x &&& w) :: st) M Q) : lx_X y d sc z pc ls (.int w :: .int x :: st) M Q := by
  intro t Z C F H locs lsA hz1 hz2 hR hL
  have K := h t Z C F H locs lsA hz1 hz2 hR hL
  obtain ⟨p, l, e, R, s, m, args, below, meth, c, D, ad, cy, A⟩ := t
  obtain ⟨⟨hx, hb, hml, hr, hown, hts, hlk, hK, hN, hE, hA, hd1, hd2, hfl, hsc⟩, hvt⟩ := C
  exact lv_iand hx hb hd K
theorem lx_i2l {x : Int32} (hd : decode y.2.1 pc = .ok (.i2l, 1)) (h : lx_X y d sc z (pc + 1) ls (.long x.toInt64 :: st) M Q) : lx_X y d sc z pc ls (.int x :: st) M Q := by
  intro t Z C F H locs lsA hz1 hz2 hR hL
  have K := h t Z C F H locs lsA hz1 hz2 hR hL
  obtain ⟨p, l, e, R, s, m, args, below, meth, c, D, ad, cy, A⟩ := t
  obtain ⟨⟨hx, hb, hml, hr, hown, hts, hlk, hK, hN, hE, hA, hd1, hd2, hfl, hsc⟩, hvt⟩ := C
  exact lv_i2l hx hb hd rfl K
theorem lx_lcmp {x w : Int64} (hd : decode y.2.1 pc = .ok (.lcmp, 1)) (h : lx_X y d sc z (pc + 1) ls (.int (lg_cmp x w) :: st) M Q) : lx_X y d sc z pc ls (.long w :: .long x :: st) M Q := by
  intro t Z C F H locs lsA hz1 hz2 hR hL
  have K := h t Z C F H locs lsA hz1 hz2 hR hL
  obtain ⟨p, l, e, R, s, m, args, below, meth, c, D, ad, cy, A⟩ := t
  obtain ⟨⟨hx, hb, hml, hr, hown, hts, hlk, hK, hN, hE, hA, hd1, hd2, hfl, hsc⟩, hvt⟩ := C
  exact W.lcmp hx hb hd K
theorem lx_goto {off : Int} {tgt : Nat} (hd : decode y.2.1 pc = .ok (.goto off, 3)) (ht : (pc : Int) + off = (tgt : Int)) (h : lx_X y d sc z tgt ls (st) M Q) : lx_X y d sc z pc ls (st) M Q := by
  intro t Z C F H locs lsA hz1 hz2 hR hL
  have K := h t Z C F H locs lsA hz1 hz2 hR hL
  obtain ⟨p, l, e, R, s, m, args, below, meth, c, D, ad, cy, A⟩ := t
  obtain ⟨⟨hx, hb, hml, hr, hown, hts, hlk, hK, hN, hE, hA, hd1, hd2, hfl, hsc⟩, hvt⟩ := C
  exact lv_goto hx hb hd ht K
theorem lx_if_eq {x : Int32} {off : Int} {tgt : Nat} (hd : decode y.2.1 pc = .ok (.ifCond .eq off, 3)) (ht : (pc : Int) + off = (tgt : Int)) (h1 : x = 0 → lx_X y d sc z tgt ls st M Q) (h2 : ¬ x = 0 → lx_X y d sc z (pc + 3) ls st M Q) : lx_X y d sc z pc ls (.int x :: st) M Q := by
  intro t Z C F H locs lsA hz1 hz2 hR hL
  obtain ⟨p, l, e, R, s, m, args, below, meth, c, D, ad, cy, A⟩ := t
  obtain ⟨⟨hx, hb, hml, hr, hown, hts, hlk, hK, hN, hE, hA, hd1, hd2, hfl, hsc⟩, hvt⟩ := C
  exact lv_if_eq hx hb hd ht (fun q => h1 q (p, l, e, R, s, m, args, below, meth, c, D, ad, cy, A) Z ⟨⟨hx, hb, hml, hr, hown, hts, hlk, hK, hN, hE, hA, hd1, hd2, hfl, hsc⟩, hvt⟩ F H locs lsA hz1 hz2 hR hL) (fun q => h2 q (p, l, e, R, s, m, args, below, meth, c, D, ad, cy, A) Z ⟨⟨hx, hb, hml, hr, hown, hts, hlk, hK, hN, hE, hA, hd1, hd2, hfl, hsc⟩, hvt⟩ F H locs lsA hz1 hz2 hR hL)
theorem lx_icmp_eq {x w : Int32} {off : Int} {tgt : Nat} (hd : decode y.2.1 pc = .ok (.if_icmp .eq off, 3)) (ht : (pc : Int) + off = (tgt : Int)) (h1 : x = w → lx_X y d sc z tgt ls st M Q) (h2 : ¬ x = w → lx_X y d sc z (pc + 3) ls st M Q) : lx_X y d sc z pc ls (.int w :: .int x :: st) M Q := by
  intro t Z C F H locs lsA hz1 hz2 hR hL
  obtain ⟨p, l, e, R, s, m, args, below, meth, c, D, ad, cy, A⟩ := t
  obtain ⟨⟨hx, hb, hml, hr, hown, hts, hlk, hK, hN, hE, hA, hd1, hd2, hfl, hsc⟩, hvt⟩ := C
  exact lv_icmp_eq hx hb hd ht (fun q => h1 q (p, l, e, R, s, m, args, below, meth, c, D, ad, cy, A) Z ⟨⟨hx, hb, hml, hr, hown, hts, hlk, hK, hN, hE, hA, hd1, hd2, hfl, hsc⟩, hvt⟩ F H locs lsA hz1 hz2 hR hL) (fun q => h2 q (p, l, e, R, s, m, args, below, meth, c, D, ad, cy, A) Z ⟨⟨hx, hb, hml, hr, hown, hts, hlk, hK, hN, hE, hA, hd1, hd2, hfl, hsc⟩, hvt⟩ F H locs lsA hz1 hz2 hR hL)
theorem lx_if_ne {x : Int32} {off : Int} {tgt : Nat} (hd : decode y.2.1 pc = .ok (.ifCond .ne off, 3)) (ht : (pc : Int) + off = (tgt : Int)) (h1 : ¬ x = 0 → lx_X y d sc z tgt ls st M Q) (h2 : x = 0 → lx_X y d sc z (pc + 3) ls st M Q) : lx_X y d sc z pc ls (.int x :: st) M Q := by
  intro t Z C F H locs lsA hz1 hz2 hR hL
  obtain ⟨p, l, e, R, s, m, args, below, meth, c, D, ad, cy, A⟩ := t
  obtain ⟨⟨hx, hb, hml, hr, hown, hts, hlk, hK, hN, hE, hA, hd1, hd2, hfl, hsc⟩, hvt⟩ := C
  exact lv_if_ne hx hb hd ht (fun q => h1 q (p, l, e, R, s, m, args, below, meth, c, D, ad, cy, A) Z ⟨⟨hx, hb, hml, hr, hown, hts, hlk, hK, hN, hE, hA, hd1, hd2, hfl, hsc⟩, hvt⟩ F H locs lsA hz1 hz2 hR hL) (fun q => h2 q (p, l, e, R, s, m, args, below, meth, c, D, ad, cy, A) Z ⟨⟨hx, hb, hml, hr, hown, hts, hlk, hK, hN, hE, hA, hd1, hd2, hfl, hsc⟩, hvt⟩ F H locs lsA hz1 hz2 hR hL)
theorem lx_icmp_gt {x w : Int32} {off : Int} {tgt : Nat} (hd : decode y.2.1 pc = .ok (.if_icmp .gt off, 3)) (ht : (pc : Int) + off = (tgt : Int)) (h1 : w < x → lx_X y d sc z tgt ls st M Q) (h2 : ¬ w < x → lx_X y d sc z (pc + 3) ls st M Q) : lx_X y d sc z pc ls (.int w :: .int x :: st) M Q := by
  intro t Z C F H locs lsA hz1 hz2 hR hL
  obtain ⟨p, l, e, R, s, m, args, below, meth, c, D, ad, cy, A⟩ := t
  obtain ⟨⟨hx, hb, hml, hr, hown, hts, hlk, hK, hN, hE, hA, hd1, hd2, hfl, hsc⟩, hvt⟩ := C
  exact lv_icmp_gt hx hb hd ht (fun q => h1 q (p, l, e, R, s, m, args, below, meth, c, D, ad, cy, A) Z ⟨⟨hx, hb, hml, hr, hown, hts, hlk, hK, hN, hE, hA, hd1, hd2, hfl, hsc⟩, hvt⟩ F H locs lsA hz1 hz2 hR hL) (fun q => h2 q (p, l, e, R, s, m, args, below, meth, c, D, ad, cy, A) Z ⟨⟨hx, hb, hml, hr, hown, hts, hlk, hK, hN, hE, hA, hd1, hd2, hfl, hsc⟩, hvt⟩ F H locs lsA hz1 hz2 hR hL)
theorem lx_tableOut {dflt lo hi : Int} {offs : Array Int} {len : Nat} {x : Int32} {tgt : Nat} (hd : decode y.2.1 pc = .ok (.tableswitch dflt lo hi offs, len)) (hx0 : x.toInt < lo ∨ hi < x.toInt) (ht : (pc : Int) + dflt = (tgt : Int)) (h : lx_X y d sc z tgt ls st M Q) : lx_X y d sc z pc ls (.int x :: st) M Q := by
  intro t Z C F H locs lsA hz1 hz2 hR hL
  have K := h t Z C F H locs lsA hz1 hz2 hR hL
  obtain ⟨p, l, e, R, s, m, args, below, meth, c, D, ad, cy, A⟩ := t
  obtain ⟨⟨hx, hb, hml, hr, hown, hts, hlk, hK, hN, hE, hA, hd1, hd2, hfl, hsc⟩, hvt⟩ := C
  exact lv_tableOut hx hb hd hx0 ht K
theorem lx_tableIn {dflt lo hi : Int} {offs : Array Int} {len : Nat} {x : Int32} {off : Int} {tgt : Nat} (hd : decode y.2.1 pc = .ok (.tableswitch dflt lo hi offs, len)) (h1 : ¬ x.toInt < lo) (h2 : ¬ hi < x.toInt) (ho : offs[(x.toInt - lo).toNat]? = some off) (ht : (pc : Int) + off = (tgt : Int)) (h : lx_X y d sc z tgt ls st M Q) : lx_X y d sc z pc ls (.int x :: st) M Q := by
  intro t Z C F H locs lsA hz1 hz2 hR hL
  have K := h t Z C F H locs lsA hz1 hz2 hR hL
  obtain ⟨p, l, e, R, s, m, args, below, meth, c, D, ad, cy, A⟩ := t
  obtain ⟨⟨hx, hb, hml, hr, hown, hts, hlk, hK, hN, hE, hA, hd1, hd2, hfl, hsc⟩, hvt⟩ := C
  exact lv_tableIn hx hb hd h1 h2 ho ht K
theorem lx_lald {a n : Nat} {f : Nat → Int64} {i : Int32} (hd : decode y.2.1 pc = .ok (.laload, 1)) (ha : a < mm_K) (hM : M a = mm_aJ n f) (hi : vp_in i n) (h : lx_X y d sc z (pc + 1) ls (.long (f i.toNatClampNeg) :: st) M Q) : lx_X y d sc z pc ls (.int i :: .ref a :: st) M Q := by
  intro t Z C F H locs lsA hz1 hz2 hR hL
  have K := h t Z C F H locs lsA hz1 hz2 hR hL
  obtain ⟨p, l, e, R, s, m, args, below, meth, c, D, ad, cy, A⟩ := t
  obtain ⟨⟨hx, hb, hml, hr, hown, hts, hlk, hK, hN, hE, hA, hd1, hd2, hfl, hsc⟩, hvt⟩ := C
  exact va_lald hx hb hK hR.1 a 1 (by rw [mm_ws_at ha, hM]; rfl) rfl hi hd K
theorem lx_sld {L : Nat} {xs : Nat → Int32} {i : Int32} (hd : decode y.2.1 pc = .ok (.iaload, 1)) (hi : vp_in i L) (h : lx_X y d (some (L, xs)) z (pc + 1) ls (.int (xs i.toNatClampNeg) :: st) M Q) : lx_X y d (some (L, xs)) z pc ls (.int i :: .ref mm_scr :: st) M Q := by
  intro t Z C F H locs lsA hz1 hz2 hR hL
  have K := h t Z C F H locs lsA hz1 hz2 hR hL
  obtain ⟨p, l, e, R, s, m, args, below, meth, c, D, ad, cy, A⟩ := t
  obtain ⟨⟨hx, hb, hml, hr, hown, hts, hlk, hK, hN, hE, hA, hd1, hd2, hfl, hsc⟩, hvt⟩ := C
  obtain ⟨s1, s2, s3, -⟩ := hsc
  exact va_sld hx hb s1 s2 s3 hR.2.2 hi hd K
theorem lx_slen {L : Nat} {xs : Nat → Int32} (hd : decode y.2.1 pc = .ok (.arraylength, 1)) (h : lx_X y d (some (L, xs)) z (pc + 1) ls (.int (Int32.ofNat L) :: st) M Q) : lx_X y d (some (L, xs)) z pc ls (.ref mm_scr :: st) M Q := by
  intro t Z C F H locs lsA hz1 hz2 hR hL
  have K := h t Z C F H locs lsA hz1 hz2 hR hL
  obtain ⟨p, l, e, R, s, m, args, below, meth, c, D, ad, cy, A⟩ := t
  obtain ⟨⟨hx, hb, hml, hr, hown, hts, hlk, hK, hN, hE, hA, hd1, hd2, hfl, hsc⟩, hvt⟩ := C
  obtain ⟨s1, s2, s3, -⟩ := hsc
  exact va_slen hx hb s1 s2 s3 hR.2.2 hd K
theorem lx_stop {r : Option Value} (he : mm_end y pc r) (hs : st = mm_endS r) (hq : Q r M) : lx_X y d sc z pc ls st M Q := by
  intro t Z C F H locs lsA hz1 hz2 hR hL
  obtain ⟨p, l, e, R, s, m, args, below, meth, c, D, ad, cy, A⟩ := t
  obtain ⟨⟨hx, hb, hml, hr, hown, hts, hlk, hK, hN, hE, hA, hd1, hd2, hfl, hsc⟩, hvt⟩ := C
  subst hs
  obtain ⟨hn, l9, hv, hm⟩ := hL
  exact F r M H locs z pc lsA hq hR hz1 hz2 hv.1 he
theorem lx_ireturn {x : Int32} (hd : decode y.2.1 pc = .ok (.ireturn, 1)) (ty : FieldType) (hy : y.2.2.2 = some ty) (hn : narrow ty (.int x) = .int x) (hq : Q (some (.int x)) M) : lx_X y d sc z pc ls [.int x] M Q := lx_stop (r := some (.int x)) ⟨hd, ty, hy, hn⟩ rfl hq
end LX
section LXC
variable {y y' : mm_MR} {d d' n idx : Nat} {sc : mm_SC} {z : Nat × Nat} {pc : Nat} {ls st rest As : List Value} {M : mm_Mem} {Q P : Option Value → mm_Mem → Prop}
theorem lx_invV {b ci : Nat} {fs : List Value} (hb0 : b < mm_K) (hM : M b = mm_aO ci fs) (hci : (vwCl[ci]?).map (fun q => q.1) = some y'.1.cls) (hd : decode y.2.1 pc = .ok (.invokevirtual idx, 3)) (hC : mm_CV y.1.cls idx y' n) (hs : mm_S d' y' 0 0 (.ref b :: As) M P) (hn : As.length = n) (hst : st = As.reverse ++ .ref b :: rest) (hrest : (rest.map fun v => v.category).sum ≤ 8) (hdd : d' + 1 ≤ d) (h : ∀ r M', P r M' → lx_X y d sc z (pc + 3) ls (r.toList ++ rest) M' Q) : lx_X y d sc z pc ls st M Q := by
  subst hst
  intro t Z C F H locs lsA hz1 hz2 hR hL
  obtain ⟨p, l, e, R, s, m, args, below, meth, c, D, ad, cy, A⟩ := t
  obtain ⟨⟨hx, hb, hml, hr, hown, hts, hlk, hK, hN, hE, hA, hd1, hd2, hfl, hsc⟩, hvt⟩ := C
  obtain ⟨r1, r2, r3⟩ := hR
  obtain ⟨c1, c2, c3, c4, c5, c6, c7⟩ := hC
  have cb : CallB R s args y.1.cls idx y'.1 y'.2.1 y'.2.2.1 y'.2.2.2 (mm_w y') (mm_rm d' 0 0) 0 0 n := callB_of n hts (mm_good y' c4) rfl rfl rfl (hts _ c5) (hts _ c1) c6 ⟨Nat.le_trans hdd hd1, by show 8 + (y'.2.2.1 + 11) + 40 * d' ≤ R.locals; omega⟩
  have hrest' : ((rest.map (mm_cv ad)).map fun v => v.category).sum ≤ 8 := by
    rw [List.map_map]
    rw [show ((fun v : Value => v.category) ∘ mm_cv ad) = fun v => v.category from funext fun v => mm_cat v]
    exact hrest
  refine mm_run (D := D) (ad := ad) (cy := cy) (P := P) (mc := 0) (ms := 0) (rest := rest.map (mm_cv ad)) (va_runV (b := ad b) (As := As.map (mm_cv ad)) ⟨hx, hb, hml, hown, hts⟩ (hs l D ad cy A hfl) ⟨cb, hts _ c2, hts _ c3⟩ ⟨mm_blind, mm_recv hK r1 hb0 hM hci, mm_pre (As := .ref b :: As) hK hN hE hA r1 r2 r3⟩ rfl (by rw [List.length_map]; exact hn) (by obtain ⟨-, l9, hv, -⟩ := hL; exact hv.1) (by simp [mm_cv, List.map_reverse]) (lv_room hrest') hd ⟨hz1, hz2⟩) r3 (fun r M' H1 locs1 hp q1 q2 q3 => ?_)
  have k := h r M' hp (p, l, e, R, s, m, args, below, meth, c, D, ad, cy, A) Z ⟨⟨hx, hb, hml, hr, hown, hts, hlk, hK, hN, hE, hA, hd1, hd2, hfl, hsc⟩, hvt⟩ F H1 locs1 lsA hz1 hz2 ⟨q1, q2, q3⟩ hL
  have e9 : (r.toList ++ rest).map (mm_cv ad) = (r.map (mm_cv ad)).toList ++ rest.map (mm_cv ad) := by cases r <;> simp
  dsimp only at k
  rw [e9] at k
  exact k
end LXC
