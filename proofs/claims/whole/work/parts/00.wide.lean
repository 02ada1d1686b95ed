/-! a law of the library's farther part, that part 26 takes: named here first, so that every part is read over the same library -/
theorem ww_far : True := by
  have _h := @Jvm.Free.Multi.fill_facts
  trivial
