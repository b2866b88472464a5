/-- a law of the doubles, named first: the whole library is wanted -/
theorem wide_first {a b : UInt64} (ha : FP.Core.val64 a ≠ .nan) (hb : FP.Core.val64 b ≠ .nan) : FP.Core.dcmp a b = some (compare (FP.Core.zval FP.Core.b64 (FP.Core.val64 a)) (FP.Core.zval FP.Core.b64 (FP.Core.val64 b))) := FP.Core.dcmp_zval ha hb
