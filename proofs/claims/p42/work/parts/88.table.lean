/-! the table's step: one rehearsal more in the order -/
/-- x is the greatest fame of a choice all of whose rehearsals are of M -/
def bestIn (d : DV) (M : Nat → Prop) (x : Nat) : Prop := (∃ S, S < 2 ^ vn d ∧ chB d S = true ∧ (∀ k, S.testBit k = true → M k) ∧ su S (vF d) (vn d) = x) ∧ ∀ S, S < 2 ^ vn d → chB d S = true → (∀ k, S.testBit k = true → M k) → su S (vF d) (vn d) ≤ x
theorem clr_put {S r : Nat} (hr : r < 31) (hS : S < 2 ^ 31) (hb : S.testBit r = true) : clr S r ||| 2 ^ r = S := by
  apply Nat.eq_of_testBit_eq
  intro j
  rw [Nat.testBit_or, clr_bit hr hS, Nat.testBit_two_pow]
  by_cases hj : r = j
  · subst hj; simp [hb]
  · simp [hj, Ne.symm hj]
theorem bit_lt {S n k : Nat} (hS : S < 2 ^ n) (h : S.testBit k = true) : k < n := by
  rcases Nat.lt_or_ge k n with h1 | h1
  · exact h1
  · rw [Nat.testBit_lt_two_pow (Nat.lt_of_lt_of_le hS (Nat.pow_le_pow_right (by decide) h1))] at h; cases h
theorem bestIn_0 (d : DV) : bestIn d (fun _ => False) 0 := by
  have hz : ∀ n, su 0 (vF d) n = 0 := by
    intro n
    induction n with
    | zero => rfl
    | succ n ih => unfold su; rw [Nat.zero_testBit, ih]; rfl
  refine ⟨⟨0, Nat.two_pow_pos _, chB_0 d, (fun k hk => by rw [Nat.zero_testBit] at hk; cases hk), hz _⟩, fun S hS _ hM => ?_⟩
  have h0 : S = 0 := by
    apply Nat.eq_of_testBit_eq
    intro j
    rw [Nat.zero_testBit]
    cases hj : S.testBit j
    · rfl
    · exact (hM j hj).elim
  rw [h0, hz]
  exact Nat.le_refl 0
theorem bestIn_congr {d : DV} {M N : Nat → Prop} {x : Nat} (h : ∀ k, k < vn d → (M k ↔ N k)) (hx : bestIn d M x) : bestIn d N x := by
  obtain ⟨⟨S, s1, s2, s3, s4⟩, hm⟩ := hx
  exact ⟨⟨S, s1, s2, fun k hk => (h k (bit_lt s1 hk)).mp (s3 k hk), s4⟩, fun T t1 t2 t3 => hm T t1 t2 (fun k hk => (h k (bit_lt t1 hk)).mpr (t3 k hk))⟩
theorem bestIn_step {d : DV} (ok : DOK d) {M N O : Nat → Prop} {r x y : Nat} (hr : r < vn d) (hN : ∀ k, k < vn d → (N k ↔ M k ∨ k = r)) (hrM : ¬ M r) (hO : ∀ k, k < vn d → (O k ↔ M k ∧ cl (vP d) (vB d) (vE d) r k = false)) (h1 : bestIn d M x) (h2 : bestIn d O y) : bestIn d N (max x (vF d r + y)) := by
  have hn := ok.1
  have hM14 : (2:Nat) ^ vn d ≤ 2 ^ 14 := Nat.pow_le_pow_right (by decide) hn
  obtain ⟨⟨S1, a1, a2, a3, a4⟩, am⟩ := h1
  obtain ⟨⟨S2, b1, b2, b3, b4⟩, bm⟩ := h2
  have hS2r : S2.testBit r = false := by
    cases hb : S2.testBit r
    · rfl
    · exact absurd ((hO r hr).mp (b3 r hb)).1 hrM
  have hp : (2:Nat) ^ r < 2 ^ vn d := Nat.pow_lt_pow_right (by decide) hr
  refine ⟨?_, fun S hS hc hN2 => ?_⟩
  · rcases Nat.le_total (vF d r + y) x with hle | hle
    · exact ⟨S1, a1, a2, fun k hk => (hN k (bit_lt a1 hk)).mpr (Or.inl (a3 k hk)), by rw [a4]; omega⟩
    · refine ⟨S2 ||| 2 ^ r, Nat.or_lt_two_pow b1 hp, ?_, fun k hk => ?_, ?_⟩
      · rw [chB_put hr, b2, Bool.true_and, decide_eq_true_eq, mk_and]
        intro j hj hcj
        cases hb : S2.testBit j
        · rfl
        · rw [((hO j hj).mp (b3 j hb)).2] at hcj; cases hcj
      · rw [Nat.testBit_or, Nat.testBit_two_pow] at hk
        by_cases hkr : r = k
        · exact (hN k (by omega)).mpr (Or.inr hkr.symm)
        · have hk2 : S2.testBit k = true := by simpa [hkr] using hk
          exact (hN k (bit_lt b1 hk2)).mpr (Or.inl ((hO k (bit_lt b1 hk2)).mp (b3 k hk2)).1)
      · rw [su_put (vF d) hS2r (vn d) hr, b4]; omega
  · cases hb : S.testBit r
    · have := am S hS hc (fun k hk => ((hN k (bit_lt hS hk)).mp (hN2 k hk)).resolve_right (fun h => by subst h; rw [hb] at hk; cases hk))
      omega
    · have hS31 : S < 2 ^ 31 := by omega
      have hcb := clr_bit (K := S) (r := r) (by omega) hS31
      have hput := clr_put (by omega) hS31 hb
      have hch := (chB_iff d S).mp hc
      have hle := bm (clr S r) (Nat.lt_of_le_of_lt (clr_le S r) hS) ((chB_iff d _).mpr (chO_sub hch (fun j hj => by rw [hcb] at hj; simp at hj; exact hj.1))) (fun k hk => ?_)
      · have hr0 : (clr S r).testBit r = false := by rw [hcb]; simp
        have := su_put (vF d) hr0 (vn d) hr
        rw [hput] at this
        omega
      · rw [hcb] at hk
        simp at hk
        have hkn := bit_lt hS hk.1
        exact (hO k hkn).mpr ⟨((hN k hkn).mp (hN2 k hk.1)).resolve_right hk.2, hch r k hr hkn hb hk.1⟩
