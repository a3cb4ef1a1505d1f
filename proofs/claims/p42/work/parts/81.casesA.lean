theorem isN_nI {n r : Nat} (h : r < n) (hn : n < 2 ^ 31) : isN n (nI r) := by
  unfold isN
  rw [nI_toInt (by omega)]
  omega
