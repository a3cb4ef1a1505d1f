/-! how many bits: the library's way as the reference's -/
def bcN (s : Nat) : Nat :=
  let v1 := s - (s / 2 ^ 1 &&& 1431655765)
  let v2 := (v1 &&& 858993459) + (v1 / 2 ^ 2 &&& 858993459)
  let v3 := v2 + v2 / 2 ^ 4 &&& 252645135
  let v4 := v3 + v3 / 2 ^ 8
  let v5 := v4 + v4 / 2 ^ 16
  v5 &&& 63
theorem bcN_pcn0 : ∀ h, h < 64 → ∀ l, l < 128 → bcN (128 * h + l) = pcn (128 * h + l) 14 := by decide +kernel
theorem bcN_pcn1 : ∀ h, h < 64 → ∀ l, l < 128 → bcN (128 * (64 + h) + l) = pcn (128 * (64 + h) + l) 14 := by decide +kernel
theorem bcN_pcn {s : Nat} (hs : s < 2 ^ 14) : bcN s = pcn s 14 := by
  have h1 : s = 128 * (s / 128) + s % 128 := (Nat.div_add_mod s 128).symm
  have h2 : s % 128 < 128 := Nat.mod_lt _ (by decide)
  rcases Nat.lt_or_ge (s / 128) 64 with h | h
  · rw [h1]; exact bcN_pcn0 _ h _ h2
  · have := bcN_pcn1 (s / 128 - 64) (by omega) _ h2
    rw [show 64 + (s / 128 - 64) = s / 128 by omega, ← h1] at this
    exact this
theorem z_ushr {n : Nat} (hn : n < 2 ^ 32) {x : Int32} {k : Nat} (h : ((x.toUInt32 &&& Int32.toUInt32 31).toBitVec % 32).toNat = k) : ((nI n).toUInt32 >>> (x.toUInt32 &&& Int32.toUInt32 31)).toInt32 = nI (n / 2 ^ k) := pk_ushrN hn x k h
theorem s_bits {s : Nat} (hs : s < 2 ^ 14) {Q : Int32 → Prop} (h : Q (nI (pcn s 14))) : wn_J6_bitCount_0f7a4 (nI s) Q := by
  unfold wn_J6_bitCount_0f7a4
  intro v1 e1 v2 e2 v3 e3 v4 e4 v5 e5
  have le1 : s / 2 ^ 1 &&& 1431655765 ≤ s := Nat.le_trans Nat.and_le_left (Nat.div_le_self _ _)
  rw [z_ushr (k := 1) (by omega) (by decide), show (1431655765 : Int32) = nI 1431655765 from rfl, z_and, z_sub le1] at e1
  have b1 : s - (s / 2 ^ 1 &&& 1431655765) < 2 ^ 14 := by omega
  generalize hn1 : s - (s / 2 ^ 1 &&& 1431655765) = n1 at e1 b1
  subst e1
  rw [z_ushr (k := 2) (by omega) (by decide), show (858993459 : Int32) = nI 858993459 from rfl, z_and, z_and, nI_add] at e2
  have le2 : n1 &&& 858993459 ≤ n1 := Nat.and_le_left
  have le3 : n1 / 2 ^ 2 &&& 858993459 ≤ n1 := Nat.le_trans Nat.and_le_left (Nat.div_le_self _ _)
  have b2 : (n1 &&& 858993459) + (n1 / 2 ^ 2 &&& 858993459) < 2 ^ 15 := by omega
  generalize hn2 : (n1 &&& 858993459) + (n1 / 2 ^ 2 &&& 858993459) = n2 at e2 b2
  subst e2
  rw [z_ushr (k := 4) (by omega) (by decide), show (252645135 : Int32) = nI 252645135 from rfl, nI_add, z_and] at e3
  have le4 : n2 + n2 / 2 ^ 4 &&& 252645135 ≤ n2 + n2 / 2 ^ 4 := Nat.and_le_left
  have b3 : n2 + n2 / 2 ^ 4 &&& 252645135 < 2 ^ 16 := by have := Nat.div_le_self n2 (2 ^ 4); omega
  generalize hn3 : n2 + n2 / 2 ^ 4 &&& 252645135 = n3 at e3 b3
  subst e3
  rw [z_ushr (k := 8) (by omega) (by decide), nI_add] at e4
  have b4 : n3 + n3 / 2 ^ 8 < 2 ^ 17 := by have := Nat.div_le_self n3 (2 ^ 8); omega
  generalize hn4 : n3 + n3 / 2 ^ 8 = n4 at e4 b4
  subst e4
  rw [z_ushr (k := 16) (by omega) (by decide), nI_add] at e5
  subst e5
  rw [show (63 : Int32) = nI 63 from rfl, z_and]
  have e : n4 + n4 / 2 ^ 16 &&& 63 = pcn s 14 := by
    rw [← bcN_pcn hs]
    unfold bcN
    simp only []
    rw [hn1, hn2, hn3, hn4]
  rw [e]
  exact h
