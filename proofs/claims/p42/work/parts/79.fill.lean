/-! the reference's table of all sets -/
theorem su_low {K r : Nat} (F : Nat → Nat) : ∀ n, n ≤ r → su (K ||| 2 ^ r) F n = su K F n
  | 0, _ => rfl
  | n + 1, h => by
    unfold su
    rw [su_low F n (by omega), Nat.testBit_or, Nat.testBit_two_pow, decide_eq_false (by omega : ¬ r = n), Bool.or_false]
theorem su_put {K r : Nat} (F : Nat → Nat) (hb : K.testBit r = false) : ∀ n, r < n → su (K ||| 2 ^ r) F n = su K F n + F r
  | 0, h => absurd h (by omega)
  | n + 1, h => by
    unfold su
    rw [Nat.testBit_or, Nat.testBit_two_pow]
    by_cases hrn : r = n
    · subst hrn
      rw [su_low F r (Nat.le_refl r), hb]
      simp
    · rw [su_put F hb n (by omega), decide_eq_false hrn, Bool.or_false]
      split <;> omega
theorem chB_put {d : DV} {K r : Nat} (hr : r < vn d) : chB d (K ||| 2 ^ r) = (chB d K && decide (mk (cl (vP d) (vB d) (vE d) r) (vn d) &&& K = 0)) := by
  rw [Bool.eq_iff_iff, Bool.and_eq_true, decide_eq_true_eq, chB_iff, chB_iff]
  constructor
  · intro h
    refine ⟨chO_sub h (fun j hj => by rw [Nat.testBit_or, hj]; rfl), ?_⟩
    rw [mk_and]
    intro j hj hc
    cases hb : K.testBit j
    · rfl
    · have h1 := h r j hr hj (by rw [Nat.testBit_or, Nat.testBit_two_pow]; simp) (by rw [Nat.testBit_or, hb]; rfl)
      rw [h1] at hc; cases hc
  · intro h
    exact chO_put h.1 hr h.2
theorem chB_0 (d : DV) : chB d 0 = true := by
  rw [chB_iff]
  intro i j _ _ h
  rw [Nat.zero_testBit] at h; cases h
theorem chB_one {d : DV} {r : Nat} (hr : r < vn d) : chB d (2 ^ r) = true := by
  have h := chB_put (d := d) (K := 0) hr
  rw [Nat.zero_or, chB_0, Nat.and_zero] at h
  rw [h]; simp
theorem nI_neg1 {x : Nat} (hx : x < 2 ^ 31) : ¬ nI x = (-1 : Int32) := by
  intro h
  have h1 := congrArg Int32.toInt h
  rw [nI_toInt hx] at h1
  have h2 : (-1 : Int32).toInt = -1 := by decide
  rw [h2] at h1
  omega
/-- the table's first M sets -/
def FT (d : DV) (yu : Nat → Int32) (M : Nat) : Prop := ∀ S, S < M → yu S = (if chB d S = true then nI (su S (vF d) (vn d)) else (-1 : Int32))
theorem FT.put {d : DV} {yu : Nat → Int32} {M : Nat} (h : FT d yu M) {v : Int32} (hv : v = (if chB d M = true then nI (su M (vF d) (vn d)) else (-1 : Int32))) : FT d (upd yu M v) (M + 1) := by
  intro S hS
  by_cases hSM : S = M
  · subst hSM; rw [pk_us]; exact hv
  · rw [pk_un hSM]; exact h S (by omega)
theorem suF_le {d : DV} (ok : DOK d) (S : Nat) : su S (vF d) (vn d) ≤ 700 := by
  have h := su_le S (vF d) 50 (vn d) (fun k hk => (ok.2.2.1 k hk).2.2.2)
  have := ok.1
  omega
/-! the best set with some in it, as the table stands -/
def gdS (d : DV) (w S : Nat) : Prop := chB d S = true ∧ S &&& w = w
/-- b is the best of the first M sets: the greatest fame, and of like ones the least -/
def bestOf (d : DV) (w M b : Nat) : Prop := b < M ∧ gdS d w b ∧ ∀ S, S < M → gdS d w S → su S (vF d) (vn d) ≤ su b (vF d) (vn d) ∧ (su S (vF d) (vn d) = su b (vF d) (vn d) → b ≤ S)
/-- the most rehearsals of a choice -/
def mostOf (d : DV) (M x : Nat) : Prop := (∀ S, S < M → chB d S = true → pcn S 14 ≤ x) ∧ (x = 0 ∨ ∃ S, S < M ∧ chB d S = true ∧ pcn S 14 = x)
theorem pcn_le (s : Nat) : ∀ n, pcn s n ≤ n
  | 0 => Nat.le_refl 0
  | n + 1 => by
    have h := pcn_le s n
    have h2 : s / 2 ^ n % 2 < 2 := Nat.mod_lt _ (by decide)
    unfold pcn
    omega
