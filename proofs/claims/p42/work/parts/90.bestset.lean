/-! the class's best set -/
theorem all_bit (n k : Nat) : (2 ^ n - 1).testBit k = decide (k < n) := Nat.testBit_two_pow_sub_one n k
theorem su_best {d : DV} {b : Nat} (hb : bestOf d 0 (2 ^ vn d) b) {M : Nat → Prop} (hM : ∀ k, b.testBit k = true → M k) {x : Nat} (hx : bestIn d M x) : x = su b (vF d) (vn d) := by
  obtain ⟨b1, b2, b3⟩ := hb
  obtain ⟨⟨S, s1, s2, -, s4⟩, hm⟩ := hx
  have k1 := hm b b1 b2.1 hM
  have k2 := (b3 S s1 ⟨s2, Nat.and_zero S⟩).1
  omega
theorem bestOf_ex (d : DV) : ∃ b, bestOf d 0 (2 ^ vn d) b := by
  have key : ∀ M, ∃ b, bestOf d 0 (M + 1) b := by
    intro M
    induction M with
    | zero =>
      refine ⟨0, by omega, ⟨chB_0 d, rfl⟩, fun S hS _ => ?_⟩
      have : S = 0 := by omega
      subst this
      exact ⟨Nat.le_refl _, fun _ => Nat.le_refl _⟩
    | succ M ih =>
      obtain ⟨b, b1, b2, b3⟩ := ih
      by_cases hc : chB d (M + 1) = true ∧ su b (vF d) (vn d) < su (M + 1) (vF d) (vn d)
      · refine ⟨M + 1, by omega, ⟨hc.1, Nat.and_zero _⟩, fun S hS hg => ?_⟩
        by_cases hSM : S = M + 1
        · subst hSM; exact ⟨Nat.le_refl _, fun _ => Nat.le_refl _⟩
        · have := b3 S (by omega) hg
          exact ⟨by omega, fun _ => by omega⟩
      · refine ⟨b, by omega, b2, fun S hS hg => ?_⟩
        by_cases hSM : S = M + 1
        · subst hSM
          have h1 : ¬ su b (vF d) (vn d) < su (M + 1) (vF d) (vn d) := fun h => hc ⟨hg.1, h⟩
          exact ⟨by omega, fun _ => by omega⟩
        · exact b3 S (by omega) hg
  obtain ⟨b, hb⟩ := key (2 ^ vn d - 1)
  rw [Nat.sub_add_cancel (Nat.two_pow_pos _)] at hb
  exact ⟨b, hb⟩
theorem bestOf_un {d : DV} {w M a b : Nat} (ha : bestOf d w M a) (hb : bestOf d w M b) : a = b := by
  have h1 := ha.2.2 b hb.1 hb.2.1
  have h2 := hb.2.2 a ha.1 ha.2.1
  omega
/-- less as a number, by its bits -/
theorem lt_bits {S b r : Nat} (hhi : ∀ k, r < k → S.testBit k = true → b.testBit k = true) (hS : S.testBit r = false) (hb : b.testBit r = true) : S < b := by
  have h1 : S / 2 ^ (r + 1) ≤ b / 2 ^ (r + 1) := by
    have h2 : S / 2 ^ (r + 1) ||| b / 2 ^ (r + 1) = b / 2 ^ (r + 1) := by
      apply Nat.eq_of_testBit_eq
      intro j
      rw [Nat.testBit_or, ← Nat.shiftRight_eq_div_pow, ← Nat.shiftRight_eq_div_pow, Nat.testBit_shiftRight, Nat.testBit_shiftRight]
      cases hc : S.testBit (r + 1 + j)
      · rfl
      · rw [hhi _ (by omega) hc]; rfl
    rw [← h2]
    exact Nat.left_le_or
  have hp : 0 < 2 ^ r := Nat.two_pow_pos r
  have e2 : (2:Nat) ^ (r + 1) = 2 ^ r * 2 := Nat.pow_succ 2 r
  have hs2 := bit_shr S r
  have hb2 := bit_shr b r
  rw [hS] at hs2
  rw [hb] at hb2
  have d1 : S / 2 ^ (r + 1) = S / 2 ^ r / 2 := by rw [e2, Nat.div_div_eq_div_mul]
  have d2 : b / 2 ^ (r + 1) = b / 2 ^ r / 2 := by rw [e2, Nat.div_div_eq_div_mul]
  have hs3 : S / 2 ^ r % 2 = 0 := hs2
  have hb3 : b / 2 ^ r % 2 = 1 := hb2
  have h3 : S / 2 ^ r < b / 2 ^ r := by omega
  rcases Nat.lt_or_ge S b with h | h
  · exact h
  · exact absurd (Nat.div_le_div_right (c := 2 ^ r) h) (by omega)
theorem m1_eq (r : Nat) : nI r + (-1 : Int32) = nI r - (1 : Int32) := by
  cases r with
  | zero => decide
  | succ r => rw [pk_m1, nI_pred]
theorem s_allD {d : DV} (ok : DOK d) {dc : Int32} (hdc : dc = nI (vn d)) {Q : Int32 → Prop} (h : Q (nI (2 ^ vn d - 1))) : wn_X1_all dc Q := by
  subst hdc
  exact s_all ok.1 h
theorem s_bestSet {d : DV} (ok : DOK d) {db de df ho ht : Nat → Int32} {dc dp dk : Int32} (hd : DC d db de df dc dp dk) {Q : Int32 → (Nat → Int32) → (Nat → Int32) → Prop} (h : ∀ (b : Nat) (ho' ht' : Nat → Int32), bestOf d 0 (2 ^ vn d) b → Q (nI b) ho' ht') : wn_X0_bestSet ho ht db de df dc dp Q := by
  have hn := ok.1
  have hM14 : (2:Nat) ^ vn d ≤ 2 ^ 14 := Nat.pow_le_pow_right (by decide) hn
  obtain ⟨b, hb⟩ := bestOf_ex d
  have hbn := hb.1
  have hsub := suF_le ok b
  unfold wn_X0_bestSet
  refine s_allD ok hd.1 (s_fameAmong ok hd (by omega) (fun x ho1 ht1 hx => ?_))
  have ex := su_best hb (fun k hk => by rw [all_bit]; exact decide_eq_true (bit_lt hbn hk)) hx
  subst ex
  have main : ∀ (r W : Nat) (ho ht : Nat → Int32), r ≤ vn d → W < 2 ^ 31 → (∀ k, W.testBit k = true ↔ (k < r ∨ b.testBit k = true)) → wl_n_X0_bestSet_20 db de df dc dp Q (r + 1) ho ht (nI W) (nI (su b (vF d) (vn d))) (nI r - (1 : Int32)) := by
    intro r
    induction r with
    | zero =>
      intro W ho ht hr hW hbits
      have hWb : W = b := by
        apply Nat.eq_of_testBit_eq
        intro k
        have := hbits k
        cases hk : b.testBit k <;> cases hk2 : W.testBit k <;> simp_all
      rw [wl_n_X0_bestSet_20]
      refine ⟨fun _ => ?_, fun hc => absurd (by decide) hc⟩
      rw [hWb]
      exact h b ho ht hb
    | succ r ih =>
      intro W ho ht hr hW hbits
      have h2r : (2:Nat) ^ r < 2 ^ 14 := Nat.pow_lt_pow_right (by decide) (by omega)
      have e0 : (nI r < 0) = (r < 0) := by rw [z_0, z_lt (by omega) (by decide)]
      have e1 : nI W &&& (nI (2 ^ r) ^^^ (-1 : Int32)) = nI (clr W r) := by
        rw [z_mone, z_and, Nat.mod_eq_of_lt (by omega)]; rfl
      have hcb := clr_bit (K := W) (r := r) (by omega) hW
      have hcl : clr W r < 2 ^ 31 := Nat.lt_of_le_of_lt (clr_le W r) hW
      rw [nI_pred, wl_n_X0_bestSet_20, e0, m1_eq]
      refine ⟨fun hc => absurd hc (by omega), fun _ => s_bit (by omega) ?_⟩
      rw [e1]
      refine s_fameAmong ok hd hcl (fun y ho2 ht2 hy => ?_)
      have hy7 : y ≤ 700 := by
        obtain ⟨⟨S, -, -, -, e⟩, -⟩ := hy
        rw [← e]
        exact suF_le ok S
      rw [z_eq (by omega) (by omega)]
      cases hbr : b.testBit r
      · have ey := su_best hb (fun k hk => by
          rw [hcb, (hbits k).mpr (Or.inr hk), Bool.true_and]
          exact decide_eq_true (fun e => by rw [e, hbr] at hk; cases hk)) hy
        refine ⟨fun hc => absurd ey hc, fun _ => ih (clr W r) ho2 ht2 (by omega) hcl (fun k => ?_)⟩
        rw [hcb, Bool.and_eq_true, hbits k, decide_eq_true_eq]
        constructor
        · rintro ⟨h1 | h1, h2⟩
          · exact Or.inl (by omega)
          · exact Or.inr h1
        · rintro (h1 | h1)
          · exact ⟨Or.inl (by omega), by omega⟩
          · exact ⟨Or.inr h1, fun e => by rw [e, hbr] at h1; cases h1⟩
      · refine ⟨fun _ => ih W ho2 ht2 (by omega) hW (fun k => ?_), fun hc => ?_⟩
        · rw [hbits k]
          constructor
          · rintro (h1 | h1)
            · by_cases hkr : k = r
              · subst hkr; exact Or.inr hbr
              · exact Or.inl (by omega)
            · exact Or.inr h1
          · rintro (h1 | h1)
            · exact Or.inl (by omega)
            · exact Or.inr h1
        · exfalso
          obtain ⟨⟨S, s1, s2, s3, s4⟩, -⟩ := hy
          have hSr : S.testBit r = false := by
            cases hq : S.testBit r
            · rfl
            · have h9 : (clr W r).testBit r = true := s3 r hq
              rw [hcb] at h9
              simp at h9
          have hlt := lt_bits (r := r) (fun k hk hSk => by
            have h1 : (clr W r).testBit k = true := s3 k hSk
            rw [hcb, Bool.and_eq_true] at h1
            exact ((hbits k).mp h1.1).resolve_left (by omega)) hSr hbr
          have h2 := (hb.2.2 S s1 ⟨s2, Nat.and_zero S⟩).2 (by omega)
          omega
  refine ⟨vn d + 1, ?_⟩
  have go := main (vn d) (2 ^ vn d - 1) ho1 ht1 (Nat.le_refl _) (by omega) (fun k => by
    rw [all_bit, decide_eq_true_eq]
    exact ⟨fun h1 => Or.inl h1, fun h1 => h1.elim id (fun h2 => bit_lt hbn h2)⟩)
  rw [← hd.1] at go
  exact go
