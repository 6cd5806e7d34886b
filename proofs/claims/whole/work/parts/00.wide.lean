/-! names a law of the whole library, so that a round on a new machine is read over the whole of it (part 01 needs it) -/
theorem zw_wide : True := by
  have _h := @Jvm.Stand.thenCaughtThrough
  trivial
