/-! ===== rows of the library's rest are used further on (part 70): so the rounds are read over the whole of it from the first part on ===== -/
theorem far_1 : True := by
  have _h := @Jvm.Stand.thenCaughtThrough
  trivial
