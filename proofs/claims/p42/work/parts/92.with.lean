/-! the greatest fame of a choice with one in it -/
def ntm (X m : Nat) : Nat := X &&& (4294967295 - m)
theorem ntm_bit {X m : Nat} (hX : X < 2 ^ 31) (hm : m < 2 ^ 31) (j : Nat) : (ntm X m).testBit j = (X.testBit j && !(m.testBit j)) := by
  unfold ntm
  rw [Nat.testBit_and, show 4294967295 - m = 2 ^ 32 - (m + 1) by omega, Nat.testBit_two_pow_sub_succ (by omega : m < 2 ^ 32)]
  by_cases hj : j < 32
  · simp [hj]
  · have h2 : X.testBit j = false := Nat.testBit_lt_two_pow (Nat.lt_of_lt_of_le hX (Nat.pow_le_pow_right (by decide) (by omega)))
    simp [h2]
theorem and_pow {b r : Nat} : b &&& 2 ^ r = 2 ^ r ↔ b.testBit r = true := by
  constructor
  · intro h
    have h1 := Nat.testBit_and b (2 ^ r) r
    rw [h, Nat.testBit_two_pow] at h1
    simpa using h1.symm
  · intro h
    apply Nat.eq_of_testBit_eq
    intro j
    rw [Nat.testBit_and, Nat.testBit_two_pow]
    by_cases hj : r = j
    · subst hj; simp [h]
    · simp [hj]
theorem with_eq {d : DV} (ok : DOK d) {r y b : Nat} (hr : r < vn d) {A : Nat} (hA : ∀ k, k < vn d → (A.testBit k = true ↔ (k ≠ r ∧ cl (vP d) (vB d) (vE d) r k = false))) (hy : bestIn d (fun k => A.testBit k = true) y) (hb : bestOf d (2 ^ r) (2 ^ vn d) b) : su b (vF d) (vn d) = vF d r + y := by
  have hn := ok.1
  have hM14 : (2:Nat) ^ vn d ≤ 2 ^ 14 := Nat.pow_le_pow_right (by decide) hn
  obtain ⟨b1, ⟨b2, b3⟩, b4⟩ := hb
  obtain ⟨⟨S, s1, s2, s3, s4⟩, hm⟩ := hy
  rw [and_pow] at b3
  have hp : (2:Nat) ^ r < 2 ^ vn d := Nat.pow_lt_pow_right (by decide) hr
  have hSr : S.testBit r = false := by
    cases hq : S.testBit r
    · rfl
    · exact absurd rfl ((hA r hr).mp (s3 r hq)).1
  have g1 : chB d (S ||| 2 ^ r) = true := by
    rw [chB_put hr, s2, Bool.true_and, decide_eq_true_eq, mk_and]
    intro j hj hcj
    cases hq : S.testBit j
    · rfl
    · rw [((hA j hj).mp (s3 j hq)).2] at hcj; cases hcj
  have g2 : (S ||| 2 ^ r) &&& 2 ^ r = 2 ^ r := by rw [and_pow, Nat.testBit_or, Nat.testBit_two_pow]; simp
  have k1 := (b4 (S ||| 2 ^ r) (Nat.or_lt_two_pow s1 hp) ⟨g1, g2⟩).1
  rw [su_put (vF d) hSr (vn d) hr] at k1
  have hcb := clr_bit (K := b) (r := r) (by omega) (by omega)
  have hput := clr_put (by omega) (by omega) b3
  have hch := (chB_iff d b).mp b2
  have k2 := hm (clr b r) (Nat.lt_of_le_of_lt (clr_le b r) b1) ((chB_iff d _).mpr (chO_sub hch (fun j hj => by rw [hcb] at hj; simp at hj; exact hj.1))) (fun k hk => by
    rw [hcb] at hk
    simp at hk
    have hkn := bit_lt b1 hk.1
    exact (hA k hkn).mpr ⟨hk.2, hch r k hr hkn b3 hk.1⟩)
  have hr0 : (clr b r).testBit r = false := by rw [hcb]; simp
  have k3 := su_put (vF d) hr0 (vn d) hr
  rw [hput] at k3
  omega
