/-! the words of each throw (written by mk.py) -/
theorem th1 : Th "GuardVolume" 1 64 66 := ⟨by decide, kw_168, kw_11, by decide +kernel, by decide +kernel, by decide +kernel⟩
theorem th2 : Th "GuardVolume" 2 71 73 := ⟨by decide, kw_232, kw_12, by decide +kernel, by decide +kernel, by decide +kernel⟩
theorem th3 : Th "GuardVolume" 3 86 88 := ⟨by decide, kw_276, kw_13, by decide +kernel, by decide +kernel, by decide +kernel⟩
theorem th4 : Th "GuardVolume" 4 115 117 := ⟨by decide, kw_357, kw_15, by decide +kernel, by decide +kernel, by decide +kernel⟩
