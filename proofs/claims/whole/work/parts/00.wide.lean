/-- the rows of throws (9a) stand on the rest of the library: this row says so at once -/
theorem wide_lib : True := by
  have _h := @Jvm.Stand.outThrough
  exact trivial
