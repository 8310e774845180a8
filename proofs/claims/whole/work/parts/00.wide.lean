/-- names the library of floats at once, so that a round reads the whole library from its first part on -/
theorem fp_wide : True := by
  have _h1 := @FP.Core.roundRatio_exact
  have _h2 := @FP.Core.roundRatio_small
  trivial
