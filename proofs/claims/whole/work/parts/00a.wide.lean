/-! the laws of floating point stand in the rest of the library: this part makes every round be read over the whole of it from its start -/
section QWide
theorem wd_fits (a : UInt64) : FP.Core.fits FP.Core.b64 (FP.Core.val64 a) := FP.Core.val64_fits a
end QWide
