/-! numbers: ints of small naturals -/
theorem z_or (a b : Nat) : nI a ||| nI b = nI (a ||| b) := by
  apply Int32.toBitVec_inj.mp
  show BitVec.ofNat 32 a ||| BitVec.ofNat 32 b = BitVec.ofNat 32 (a ||| b)
  apply BitVec.eq_of_toNat_eq
  simp [Nat.or_mod_two_pow]
theorem z_and (a b : Nat) : nI a &&& nI b = nI (a &&& b) := by
  apply Int32.toBitVec_inj.mp
  show BitVec.ofNat 32 a &&& BitVec.ofNat 32 b = BitVec.ofNat 32 (a &&& b)
  apply BitVec.eq_of_toNat_eq
  simp [Nat.and_mod_two_pow]
theorem z_xor (a b : Nat) : nI a ^^^ nI b = nI (a ^^^ b) := by
  apply Int32.toBitVec_inj.mp
  show BitVec.ofNat 32 a ^^^ BitVec.ofNat 32 b = BitVec.ofNat 32 (a ^^^ b)
  apply BitVec.eq_of_toNat_eq
  simp [Nat.xor_mod_two_pow]
theorem z_bit : ∀ k, k < 31 → (1 : Int32) <<< (nI k &&& 31) = nI (2 ^ k) := by decide +kernel
theorem z_amt : ∀ k, k < 32 → ((nI k &&& 31).toBitVec.smod 32).toNat = k := by decide +kernel
theorem z_shr {a k : Nat} (ha : a < 2 ^ 31) (hk : k < 32) : nI a >>> (nI k &&& 31) = nI (a / 2 ^ k) := pk_shrN ha _ k (z_amt k hk)
theorem z_shl {a k : Nat} (ha : a * 2 ^ k < 2 ^ 32) (hk : k < 32) : nI a <<< (nI k &&& 31) = nI (a * 2 ^ k) := pk_shlN _ k (z_amt k hk) ha
theorem z_cl {n : Nat} (h : n < 2 ^ 31) : (nI n).toNatClampNeg = n := nI_clamp h
theorem z_le {a b : Nat} (ha : a < 2 ^ 31) (hb : b < 2 ^ 31) : (nI a ≤ nI b) = (a ≤ b) := propext (nI_leI ha hb)
theorem z_lt {a b : Nat} (ha : a < 2 ^ 31) (hb : b < 2 ^ 31) : (nI a < nI b) = (a < b) := propext (nI_ltI ha hb)
theorem z_eq {a b : Nat} (ha : a < 2 ^ 31) (hb : b < 2 ^ 31) : (nI a = nI b) = (a = b) := propext (nI_eq ha hb)
theorem z_sub {a b : Nat} (h : b ≤ a) : nI a - nI b = nI (a - b) := pk_sub h
theorem z_in {n N : Nat} (h : n < N) (hN : N < 2 ^ 31) : vp_in (nI n) N := vp_in_nI h hN
theorem z_0 : (0 : Int32) = nI 0 := rfl
theorem z_1 : (1 : Int32) = nI 1 := rfl
theorem z_2 : (2 : Int32) = nI 2 := rfl
theorem z_3 : (3 : Int32) = nI 3 := rfl
theorem z_6 : (6 : Int32) = nI 6 := rfl
theorem z_8 : (8 : Int32) = nI 8 := rfl
theorem z_10 : (10 : Int32) = nI 10 := rfl
theorem z_14 : (14 : Int32) = nI 14 := rfl
theorem z_50 : (50 : Int32) = nI 50 := rfl
theorem z_96 : (96 : Int32) = nI 96 := rfl
/-- an Int32 that isn't below 0 and is at most or below a small one is a natural's -/
theorem z_of {x : Int32} (h : ¬ x < 0) : ∃ j : Nat, j < 2 ^ 31 ∧ x = nI j := nI_of h
theorem z_mone (a : Nat) : nI a ^^^ (-1 : Int32) = nI (4294967295 - a % 4294967296) := by
  apply Int32.toBitVec_inj.mp
  show BitVec.ofNat 32 a ^^^ BitVec.allOnes 32 = BitVec.ofNat 32 _
  rw [BitVec.xor_allOnes]
  apply BitVec.eq_of_toNat_eq
  rw [BitVec.toNat_not]
  simp
  omega
/-! sets as numbers -/
/-- the bits of S below n, one by one -/
def su (S : Nat) (F : Nat → Nat) : Nat → Nat
  | 0 => 0
  | k + 1 => if S.testBit k then su S F k + F k else su S F k
def mk (p : Nat → Bool) : Nat → Nat
  | 0 => 0
  | k + 1 => if p k then mk p k + 2 ^ k else mk p k
theorem mk_lt (p : Nat → Bool) : ∀ n, mk p n < 2 ^ n
  | 0 => by simp [mk]
  | n + 1 => by
    have h := mk_lt p n
    have h2 : 2 ^ (n + 1) = 2 ^ n + 2 ^ n := by rw [Nat.pow_succ]; omega
    unfold mk
    split <;> omega
theorem mk_or (p : Nat → Bool) (k : Nat) : mk p k ||| 2 ^ k = mk p k + 2 ^ k := by
  have h := Nat.two_pow_add_eq_or_of_lt (mk_lt p k) 1
  rw [Nat.mul_one] at h
  rw [Nat.or_comm, ← h, Nat.add_comm]
theorem mk_bit (p : Nat → Bool) : ∀ n j, (mk p n).testBit j = (decide (j < n) && p j)
  | 0, j => by simp [mk]
  | n + 1, j => by
    have ih := mk_bit p n j
    unfold mk
    split
    next hp =>
      rw [← mk_or, Nat.testBit_or, ih, Nat.testBit_two_pow]
      by_cases hj : n = j
      · subst hj; simp [hp]
      · have h2 : (j < n + 1) ↔ (j < n) := by omega
        simp [hj, h2]
    next hp =>
      rw [ih]
      by_cases hj : n = j
      · subst hj; simp [hp]
      · have h2 : (j < n + 1) ↔ (j < n) := by omega
        simp [h2]
theorem bit_and (s k : Nat) : (s &&& 2 ^ k = 0) = (s.testBit k = false) := by
  apply propext
  constructor
  · intro h
    have h1 := Nat.testBit_and s (2 ^ k) k
    rw [h, Nat.zero_testBit, Nat.testBit_two_pow] at h1
    simpa using h1.symm
  · intro h
    apply Nat.eq_of_testBit_eq
    intro i
    rw [Nat.testBit_and, Nat.testBit_two_pow, Nat.zero_testBit]
    by_cases hk : k = i
    · subst hk; simp [h]
    · simp [hk]
theorem bit_shr (s k : Nat) : s / 2 ^ k % 2 = (s.testBit k).toNat := by
  rw [Nat.testBit_eq_decide_div_mod_eq]
  have h : s / 2 ^ k % 2 < 2 := Nat.mod_lt _ (by decide)
  rcases (show s / 2 ^ k % 2 = 0 ∨ s / 2 ^ k % 2 = 1 by omega) with h0 | h0 <;> simp [h0]
