/-! the bits of a float or a double, by halving and doubling -/
def okN (x : UInt64) : Bool := decide (x &&& 9223372036854775807 ≤ 9218868437227405312)
theorem okN_n {x : UInt64} (h : okN x = true) : vf_n64 x := by
  unfold okN at h
  have h := of_decide_eq_true h
  exact h
def bo72 (x2 : Int32) (x4 : UInt64) (x6 : Int32) : Option Int64 :=
  bif okN (FP.dsub x4 FP.dconst1) && okN (FP.dmul (FP.dsub x4 FP.dconst1) (FP.l2d ((1 : Int64) <<< (x2.toInt64 &&& 63)))) then
    some ((x6.toInt64 <<< (x2.toInt64 &&& 63)) + FP.d2l (FP.dmul (FP.dsub x4 FP.dconst1) (FP.l2d ((1 : Int64) <<< (x2.toInt64 &&& 63))))) else none
def bo45 (x2 : Int32) : Nat → UInt64 → Int32 → Option Int64
  | 0, _, _ => none
  | n + 1, x4, x6 =>
    bif decide (0 ≤ (Op.cmpValue (FP.dcmp x4 FP.dconst1) .g)) then bo72 x2 x4 x6
    else bif decide (x6 ≤ (1 : Int32)) then bo72 x2 x4 x6
    else bif okN (FP.dmul x4 (4611686018427387904 : UInt64)) then bo45 x2 n (FP.dmul x4 (4611686018427387904 : UInt64)) (x6 + (-1)) else none
def bo14 (x2 x3 : Int32) : Nat → UInt64 → Int32 → Option Int64
  | 0, _, _ => none
  | n + 1, x4, x6 =>
    bif decide ((Op.cmpValue (FP.dcmp x4 (4611686018427387904 : UInt64)) .l) < 0) then bo45 x2 12 x4 x6
    else bif decide (((2 : Int32) * x3) ≤ x6) then bo45 x2 12 x4 x6
    else bif okN (FP.ddiv x4 (4611686018427387904 : UInt64)) then bo14 x2 x3 n (FP.ddiv x4 (4611686018427387904 : UInt64)) (x6 + 1) else none
def boB (a0 : UInt64) (a2 a3 : Int32) : Option Int64 :=
  bif decide (0 < (Op.cmpValue (FP.dcmp a0 FP.dconst0) .l)) then bo14 a2 a3 12 a0 a3 else some 0
theorem bo72_ok {x2 : Int32} {x4 : UInt64} {x6 : Int32} {v : Int64} (h : bo72 x2 x4 x6 = some v) {Q : Int64 → Prop} (hq : Q v) (x0 : UInt64) (x3 : Int32) : wj_n_X5_bitsOf_72 Q x0 x2 x3 x4 x6 := by
  unfold bo72 at h
  unfold wj_n_X5_bitsOf_72
  cases hc : (okN (FP.dsub x4 FP.dconst1) && okN (FP.dmul (FP.dsub x4 FP.dconst1) (FP.l2d ((1 : Int64) <<< (x2.toInt64 &&& 63)))))
  · rw [hc] at h; cases h
  · rw [hc] at h
    rw [Bool.and_eq_true] at hc
    refine ⟨okN_n hc.1, okN_n hc.2, fun w hw => ?_⟩
    subst hw
    have e := Option.some.inj h
    rw [e]
    exact hq
theorem bo45_ok {x2 : Int32} {Q : Int64 → Prop} {v : Int64} (hq : Q v) (x0 : UInt64) (x3 : Int32) : ∀ (n : Nat) (x4 : UInt64) (x6 : Int32), bo45 x2 n x4 x6 = some v → wl_n_X5_bitsOf_45 Q n x0 x2 x3 x4 x6
  | 0, _, _, h => by cases h
  | n + 1, x4, x6, h => by
    rw [bo45] at h
    rw [wl_n_X5_bitsOf_45]
    refine ⟨fun h1 => ?_, fun h1 => ⟨fun h2 => ?_, fun h2 => ?_⟩⟩
    · rw [decide_eq_true h1] at h
      exact bo72_ok h hq x0 x3
    · rw [decide_eq_false h1, decide_eq_true h2] at h
      exact bo72_ok h hq x0 x3
    · rw [decide_eq_false h1, decide_eq_false h2] at h
      cases h3 : okN (FP.dmul x4 (4611686018427387904 : UInt64))
      · rw [h3] at h; cases h
      · rw [h3] at h
        exact ⟨okN_n h3, bo45_ok hq x0 x3 n _ _ h⟩
theorem bo14_ok {x2 : Int32} {Q : Int64 → Prop} {v : Int64} (hq : Q v) (x0 : UInt64) (x3 : Int32) : ∀ (n : Nat) (x4 : UInt64) (x6 : Int32), bo14 x2 x3 n x4 x6 = some v → wl_n_X5_bitsOf_14 Q n x0 x2 x3 x4 x6
  | 0, _, _, h => by cases h
  | n + 1, x4, x6, h => by
    rw [bo14] at h
    rw [wl_n_X5_bitsOf_14]
    refine ⟨fun h1 => ?_, fun h1 => ⟨fun h2 => ?_, fun h2 => ?_⟩⟩
    · rw [decide_eq_true h1] at h
      exact ⟨12, bo45_ok hq x0 x3 12 _ _ h⟩
    · rw [decide_eq_false h1, decide_eq_true h2] at h
      exact ⟨12, bo45_ok hq x0 x3 12 _ _ h⟩
    · rw [decide_eq_false h1, decide_eq_false h2] at h
      cases h3 : okN (FP.ddiv x4 (4611686018427387904 : UInt64))
      · rw [h3] at h; cases h
      · rw [h3] at h
        exact ⟨okN_n h3, bo14_ok hq x0 x3 n _ _ h⟩
theorem boB_ok {a0 : UInt64} {a2 a3 : Int32} {v : Int64} (h : boB a0 a2 a3 = some v) {Q : Int64 → Prop} (hq : Q v) : wn_X5_bitsOf a0 a2 a3 Q := by
  unfold boB at h
  unfold wn_X5_bitsOf
  refine ⟨fun h1 => ?_, fun h1 => ?_⟩
  · rw [decide_eq_true h1] at h
    exact ⟨12, bo14_ok hq a0 a3 12 _ _ h⟩
  · rw [decide_eq_false h1] at h
    have e := Option.some.inj h
    rw [← e] at hq
    exact hq
def rateB (f q : Nat) : Bool := boB (FP.f2d (rateF f q)) 23 127 == some (rateF f q).toInt32.toInt64 && decide ((Op.cmpValue (FP.fcmp (rateF f q) (rateF f q)) .l) = 0)
def shareB (q : Nat) : Bool := boB (shareD q) 52 1023 == some (shareD q).toInt64
theorem rateB0 : ∀ f, f < 5 → ∀ q, q < 96 → rateB (f + 1) (q + 1) = true := by decide +kernel
theorem rateB1 : ∀ f, f < 5 → ∀ q, q < 96 → rateB (f + 6) (q + 1) = true := by decide +kernel
theorem rateB2 : ∀ f, f < 5 → ∀ q, q < 96 → rateB (f + 11) (q + 1) = true := by decide +kernel
theorem rateB3 : ∀ f, f < 5 → ∀ q, q < 96 → rateB (f + 16) (q + 1) = true := by decide +kernel
theorem rateB4 : ∀ f, f < 5 → ∀ q, q < 96 → rateB (f + 21) (q + 1) = true := by decide +kernel
theorem rateB5 : ∀ f, f < 5 → ∀ q, q < 96 → rateB (f + 26) (q + 1) = true := by decide +kernel
theorem rateB6 : ∀ f, f < 5 → ∀ q, q < 96 → rateB (f + 31) (q + 1) = true := by decide +kernel
theorem rateB7 : ∀ f, f < 5 → ∀ q, q < 96 → rateB (f + 36) (q + 1) = true := by decide +kernel
theorem rateB8 : ∀ f, f < 5 → ∀ q, q < 96 → rateB (f + 41) (q + 1) = true := by decide +kernel
theorem rateB9 : ∀ f, f < 5 → ∀ q, q < 96 → rateB (f + 46) (q + 1) = true := by decide +kernel
theorem rateB_all {f q : Nat} (h1 : 1 ≤ f) (h2 : f ≤ 50) (h3 : 1 ≤ q) (h4 : q ≤ 96) : rateB f q = true := by
  have hq : q = q - 1 + 1 := by omega
  rw [hq]
  rcases (show f < 6 ∨ (6 ≤ f ∧ f < 11) ∨ (11 ≤ f ∧ f < 16) ∨ (16 ≤ f ∧ f < 21) ∨ (21 ≤ f ∧ f < 26) ∨ (26 ≤ f ∧ f < 31) ∨ (31 ≤ f ∧ f < 36) ∨ (36 ≤ f ∧ f < 41) ∨ (41 ≤ f ∧ f < 46) ∨ 46 ≤ f by omega) with h | h | h | h | h | h | h | h | h | h
  · rw [show f = f - 1 + 1 by omega]; exact rateB0 _ (by omega) _ (by omega)
  · rw [show f = f - 6 + 6 by omega]; exact rateB1 _ (by omega) _ (by omega)
  · rw [show f = f - 11 + 11 by omega]; exact rateB2 _ (by omega) _ (by omega)
  · rw [show f = f - 16 + 16 by omega]; exact rateB3 _ (by omega) _ (by omega)
  · rw [show f = f - 21 + 21 by omega]; exact rateB4 _ (by omega) _ (by omega)
  · rw [show f = f - 26 + 26 by omega]; exact rateB5 _ (by omega) _ (by omega)
  · rw [show f = f - 31 + 31 by omega]; exact rateB6 _ (by omega) _ (by omega)
  · rw [show f = f - 36 + 36 by omega]; exact rateB7 _ (by omega) _ (by omega)
  · rw [show f = f - 41 + 41 by omega]; exact rateB8 _ (by omega) _ (by omega)
  · rw [show f = f - 46 + 46 by omega]; exact rateB9 _ (by omega) _ (by omega)
theorem shareB0 : ∀ h, h < 7 → ∀ l, l < 97 → shareB (96 * h + l) = true := by decide +kernel
theorem shareB1 : ∀ h, h < 7 → ∀ l, l < 97 → shareB (96 * (h + 7) + l) = true := by decide +kernel
theorem shareB_all {q : Nat} (hq : q ≤ 1344) : shareB q = true := by
  rcases Nat.lt_or_ge q 1344 with h | h
  · have h1 := Nat.mod_lt q (show 0 < 96 by decide)
    rcases Nat.lt_or_ge q 672 with h2 | h2
    · rw [← Nat.div_add_mod q 96]
      exact shareB0 _ (by omega) _ (by omega)
    · have e : q = 96 * (q / 96 - 7 + 7) + q % 96 := by omega
      rw [e]
      exact shareB1 _ (by omega) _ (by omega)
  · rw [show q = 96 * (6 + 7) + 96 by omega]
    exact shareB1 6 (by decide) 96 (by decide)
theorem s_floatBits {f q : Nat} (h1 : 1 ≤ f) (h2 : f ≤ 50) (h3 : 1 ≤ q) (h4 : q ≤ 96) {Q : Int64 → Prop} (h : Q (rateF f q).toInt32.toInt64) : wn_X5_floatBits (rateF f q) Q := by
  have hb := rateB_all h1 h2 h3 h4
  unfold rateB at hb
  rw [Bool.and_eq_true] at hb
  exact ⟨rate_n64 h1 h2 h3 h4, boB_ok (eq_of_beq hb.1) h⟩
theorem s_doubleBits {q : Nat} (hq : q ≤ 1344) {Q : Int64 → Prop} (h : Q (shareD q).toInt64) : wn_X5_doubleBits (shareD q) Q :=
  boB_ok (eq_of_beq (shareB_all hq)) h
