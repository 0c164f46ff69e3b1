/-! the float laws of the library stand in the part of it that a round reads only when it is named -/
theorem w_one : Jvm.FP.Core.one64 = 2 ^ 1074 := rfl
