/-! charAt: the model's half -/
theorem kretC_k (y : Int32) (h : KH) (hy : ((((y.toUInt32 % 65536).toInt32).toUInt32 % 65536).toInt32) = (y.toUInt32 % 65536).toInt32) : kretC ((y.toUInt32 % 65536).toInt32) h = kret ((y.toUInt32 % 65536).toInt32) h := if_pos hy
theorem kChr_ok : ∀ v, v < 15 → ∀ l, l < 2 → ((((kChr (nI v) (nI l)).toUInt32 % 65536).toInt32).toUInt32 % 65536).toInt32 = ((kChr (nI v) (nI l)).toUInt32 % 65536).toInt32 ∧ ¬ kChr (nI v) (nI l) = -1 := by decide +kernel
theorem kChr_m : ∀ v, v < 15 → ∀ l, l < 2 → kChr (nI v) (nI l) = if nI v = 14 then 63 else if 10 ≤ nI v then (if nI l = 0 then 55357 else (56976 + nI v) - 10) else 65 + nI v := by decide +kernel
theorem kLen_v : ∀ v, v < 15 → kLen (nI v) = nI (if v < 10 then 1 else if 14 ≤ v then 1 else 2) := by decide +kernel
