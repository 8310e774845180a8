/-- names the library of floats at once, so that a round reads the whole library from its first part on -/
theorem fp_wide : FP.Core.b32 = FP.Core.b32 := rfl
