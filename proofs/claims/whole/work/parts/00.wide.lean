theorem wide_row : True := by
  have h := @Jvm.Stand.thenCaughtThrough
  trivial
