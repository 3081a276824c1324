def vt_bad : List Cond := [.castable "java/util/NoSuchElementException" "java/util/NoSuchElementException", .declares ⟨"java/lang/RuntimeException", "<init>", "()V"⟩, .declares ⟨"java/lang/RuntimeException", "<init>", "(Ljava/lang/String;)V"⟩, .declares ⟨"java/lang/Exception", "<init>", "()V"⟩, .declares ⟨"java/lang/Exception", "<init>", "(Ljava/lang/String;)V"⟩, .declares ⟨"java/lang/Throwable", "<init>", "()V"⟩, .declares ⟨"java/lang/Throwable", "<init>", "(Ljava/lang/String;)V"⟩]
def vt_names : List String := ["java/lang/RuntimeException", "java/lang/Exception"]
theorem vt_h1 : ∀ w ∈ vx_at0 RX9 132 "java/util/NoSuchElementException" vt_names, w ∈ mm_WS ∨ w ∈ vt_bad := by
  have h : ((vx_at0 RX9 132 "java/util/NoSuchElementException" vt_names).all (fun w => decide (w ∈ lw_tbl) && (goodWord w || decide (w ∈ vt_bad)))) = true := by decide +kernel
  intro w hw
  have h1 := List.all_eq_true.mp h w hw
  simp only [Bool.and_eq_true, decide_eq_true_eq, Bool.or_eq_true] at h1
  rcases h1.2 with g | g
  · exact Or.inl (List.mem_filter.mpr ⟨h1.1, g⟩)
  · exact Or.inr g
theorem vt_h2 : ∀ w ∈ Cond.classLink RX9 130 "java/util/NoSuchElementException" :: Cond.initialized "java/util/NoSuchElementException" :: vx_at0 RX9 132 "java/util/NoSuchElementException" vt_names, vx_ot w = true :=
  List.all_eq_true.mp (by decide +kernel)
theorem vt_h3 : (∀ w ∈ vt_bad, w ∈ tables_1) := by
  have h : (vt_bad.all fun w => decide (w ∈ tables_1)) = true := by decide +kernel
  exact fun w hw => of_decide_eq_true (List.all_eq_true.mp h w hw)
/-- the words of a throw that aren't good: kept as such -/
def vt_B (U : State) : Prop := ∀ w ∈ vt_bad, va_Nw w U
theorem vt_B.warm {s U : State} (hW : s.WarmedH U.vm) (h : vt_B s) : vt_B U := by
  intro w hw
  have h1 := h w hw
  simp only [vt_bad, List.mem_cons, List.not_mem_nil, or_false] at hw
  rcases hw with rfl | rfl | rfl | rfl | rfl | rfl | rfl <;> first | exact va_Nw.warmC hW h1 | exact va_Nw.warmD hW h1
theorem vt_ot : ∀ w ∈ vt_bad, w.onTables = true := List.all_eq_true.mp (by decide +kernel)
theorem vt_B.same {s U : State} (e : s.vm = U.vm) (h : vt_B s) : vt_B U := fun w hw => va_Nw.same (vt_ot w hw) e (h w hw)
theorem vt_use {s : State} {args : Array Value} (hts : ∀ w ∈ mm_WS, w.before args s = true) (hB : vt_B s) : ∀ w ∈ vx_at0 RX9 132 "java/util/NoSuchElementException" vt_names, w.before args s = true := by
  intro w hw
  rcases vt_h1 w hw with h | h
  · exact hts w h
  · exact va_Nw.use (vt_ot w h) (hB w h)
