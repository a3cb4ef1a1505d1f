/-! fame for a quarter, the booked share: their numbers -/
def rateF (f q : Nat) : UInt32 := FP.fdiv (FP.i2f (nI f)) (FP.i2f (nI q))
def rateOK (f q : Nat) : Bool := decide (rateF f q &&& 2147483647 ≤ 2139095040) && (decide (FP.f2d (rateF f q) &&& 9223372036854775807 ≤ 9218868437227405312) && decide ((Op.cmpValue (FP.dcmp (FP.f2d (rateF f q)) (FP.f2d (rateF f q))) .l) = 0))
theorem rateOK0 : ∀ f, f < 10 → ∀ q, q < 96 → rateOK (f + 1) (q + 1) = true := by decide +kernel
theorem rateOK1 : ∀ f, f < 10 → ∀ q, q < 96 → rateOK (f + 11) (q + 1) = true := by decide +kernel
theorem rateOK2 : ∀ f, f < 10 → ∀ q, q < 96 → rateOK (f + 21) (q + 1) = true := by decide +kernel
theorem rateOK3 : ∀ f, f < 10 → ∀ q, q < 96 → rateOK (f + 31) (q + 1) = true := by decide +kernel
theorem rateOK4 : ∀ f, f < 10 → ∀ q, q < 96 → rateOK (f + 41) (q + 1) = true := by decide +kernel
theorem rateOK_all {f q : Nat} (h1 : 1 ≤ f) (h2 : f ≤ 50) (h3 : 1 ≤ q) (h4 : q ≤ 96) : rateOK f q = true := by
  have hq : q = q - 1 + 1 := by omega
  rw [hq]
  rcases (show f < 11 ∨ (11 ≤ f ∧ f < 21) ∨ (21 ≤ f ∧ f < 31) ∨ (31 ≤ f ∧ f < 41) ∨ 41 ≤ f by omega) with h | h | h | h | h
  · rw [show f = f - 1 + 1 by omega]; exact rateOK0 _ (by omega) _ (by omega)
  · rw [show f = f - 11 + 11 by omega]; exact rateOK1 _ (by omega) _ (by omega)
  · rw [show f = f - 21 + 21 by omega]; exact rateOK2 _ (by omega) _ (by omega)
  · rw [show f = f - 31 + 31 by omega]; exact rateOK3 _ (by omega) _ (by omega)
  · rw [show f = f - 41 + 41 by omega]; exact rateOK4 _ (by omega) _ (by omega)
theorem rate_n32 {f q : Nat} (h1 : 1 ≤ f) (h2 : f ≤ 50) (h3 : 1 ≤ q) (h4 : q ≤ 96) : vf_n32 (FP.fdiv (FP.i2f (nI f)) (FP.i2f (nI q))) := by
  have h := rateOK_all h1 h2 h3 h4
  unfold rateOK at h
  rw [Bool.and_eq_true] at h
  have h := of_decide_eq_true h.1
  exact h
theorem rate_n64 {f q : Nat} (h1 : 1 ≤ f) (h2 : f ≤ 50) (h3 : 1 ≤ q) (h4 : q ≤ 96) : vf_n64 (FP.f2d (FP.fdiv (FP.i2f (nI f)) (FP.i2f (nI q)))) := by
  have h := rateOK_all h1 h2 h3 h4
  unfold rateOK at h
  rw [Bool.and_eq_true, Bool.and_eq_true] at h
  have h := of_decide_eq_true h.2.1
  exact h
theorem rate_eq {f q : Nat} (h1 : 1 ≤ f) (h2 : f ≤ 50) (h3 : 1 ≤ q) (h4 : q ≤ 96) : (Op.cmpValue (FP.dcmp (FP.f2d (FP.fdiv (FP.i2f (nI f)) (FP.i2f (nI q)))) (FP.f2d (FP.fdiv (FP.i2f (nI f)) (FP.i2f (nI q))))) .l) = 0 := by
  have h := rateOK_all h1 h2 h3 h4
  unfold rateOK at h
  rw [Bool.and_eq_true, Bool.and_eq_true] at h
  exact of_decide_eq_true h.2.2
def shareD (q : Nat) : UInt64 := FP.ddiv (FP.i2d (nI q)) (4636455816377925632 : UInt64)
def shareOK (q : Nat) : Bool := decide (shareD q &&& 9223372036854775807 ≤ 9218868437227405312) && decide ((Op.cmpValue (FP.dcmp (shareD q) (shareD q)) .l) = 0)
theorem shareOK0 : ∀ h, h < 14 → ∀ l, l < 97 → shareOK (96 * h + l) = true := by decide +kernel
theorem shareOK_all {q : Nat} (hq : q ≤ 1344) : shareOK q = true := by
  rcases Nat.lt_or_ge q 1344 with h | h
  · rw [← Nat.div_add_mod q 96]
    exact shareOK0 _ (by omega) _ (by have := Nat.mod_lt q (show 0 < 96 by decide); omega)
  · rw [show q = 96 * 13 + 96 by omega]
    exact shareOK0 13 (by decide) 96 (by decide)
theorem share_n64 {q : Nat} (hq : q ≤ 1344) : vf_n64 (FP.ddiv (FP.i2d (nI q)) (4636455816377925632 : UInt64)) := by
  have h := shareOK_all hq
  unfold shareOK at h
  rw [Bool.and_eq_true] at h
  have h := of_decide_eq_true h.1
  exact h
theorem share_eq {q : Nat} (hq : q ≤ 1344) : (Op.cmpValue (FP.dcmp (FP.ddiv (FP.i2d (nI q)) (4636455816377925632 : UInt64)) (FP.ddiv (FP.i2d (nI q)) (4636455816377925632 : UInt64))) .l) = 0 := by
  have h := shareOK_all hq
  unfold shareOK at h
  rw [Bool.and_eq_true] at h
  exact of_decide_eq_true h.2
