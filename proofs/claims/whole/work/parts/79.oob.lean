/-! WHERE A METHOD THROWS: the only place of its code with a 'new' -/
theorem vt_u1 {c : ByteArray} {pc : Nat} (h : c.size ≤ pc) : (Jvm.ClassFile.Reader.u1 (ε := Jvm.ClassFile.DecodeError)) c pc = .error (Jvm.ClassFile.HasTruncated.truncated pc) := by
  have h' : ¬ pc < c.size := by omega
  simp [Jvm.ClassFile.Reader.u1, bind, ReaderT.bind, StateT.bind, MonadReader.read, readThe, MonadReaderOf.read, ReaderT.read, get, getThe, MonadStateOf.get, StateT.get, liftM, monadLift, MonadLift.monadLift, StateT.lift, h', throw, throwThe, MonadExceptOf.throw, Pure.pure, Except.pure, Except.bind, StateT.pure, ReaderT.pure]
theorem vt_bind {α : Type} {c : ByteArray} {pc : Nat} {er : Jvm.ClassFile.DecodeError} {r : Jvm.ClassFile.Reader Jvm.ClassFile.DecodeError Nat} (f : Nat → Jvm.ClassFile.Reader Jvm.ClassFile.DecodeError α) (h : r c pc = .error er) : (r >>= f) c pc = .error er := by
  show (r c pc >>= fun x => f x.1 c x.2) = _
  rw [h]
  rfl
theorem vt_oob {c : ByteArray} {pc n : Nat} {i : Instr} (h : c.size ≤ pc) : decode c pc ≠ .ok (i, n) := by
  intro e
  have h2 : Jvm.ClassFile.Reader.runAt (Jvm.ClassFile.Decoder.instr pc) c pc = .error (Jvm.ClassFile.HasTruncated.truncated pc) := by
    unfold Jvm.ClassFile.Decoder.instr
    exact vt_bind _ (vt_u1 h)
  unfold decode at e
  rw [h2] at e
  cases e
