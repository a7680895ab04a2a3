-- the claim is read over the whole library from its first part on: a name of the rest of it
theorem zz_wide : True := by
  have _h := @Jvm.Stand.thenCaughtThrough
  trivial
