/-- a name of the whole library, early: so that a round over a new machine takes the wide imports at once (wanted from 26.making on) -/
theorem xWide (n h0 : Nat) (cA : ClassId) : Jvm.Free.Multi.outerC cA n h0 n = Jvm.Free.Multi.outerC cA n h0 n := rfl
