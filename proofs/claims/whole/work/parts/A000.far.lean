/-! one name of the far library is used below: named here, so that a round is read over the whole library from its first part on -/
theorem far_mna : True := by
  have h := @Jvm.Stand.multianewarray2F
  trivial
