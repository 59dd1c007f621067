/-! the texts that are made on the way want the library's laws of a builder -/
theorem wide_sb : True := by
  have h := @Jvm.Stand.sbInitV
  trivial
