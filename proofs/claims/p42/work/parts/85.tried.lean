/-! the greatest fame by trying -/
/-- x is the greatest fame of a choice of the first r with none of Z -/
def bestBar (d : DV) (r Z x : Nat) : Prop := (∃ S, S < 2 ^ r ∧ chB d S = true ∧ S &&& Z = 0 ∧ su S (vF d) (vn d) = x) ∧ ∀ S, S < 2 ^ r → chB d S = true → S &&& Z = 0 → su S (vF d) (vn d) ≤ x
theorem split_top {S r : Nat} (hS : S < 2 ^ (r + 1)) : S < 2 ^ r ∨ ∃ K, K < 2 ^ r ∧ S = K ||| 2 ^ r := by
  have h1 : (2:Nat) ^ (r + 1) = 2 ^ r + 2 ^ r := by rw [Nat.pow_succ]; omega
  rcases Nat.lt_or_ge S (2 ^ r) with h | h
  · exact Or.inl h
  · refine Or.inr ⟨S - 2 ^ r, by omega, ?_⟩
    have h5 := Nat.two_pow_add_eq_or_of_lt (show S - 2 ^ r < 2 ^ r by omega) 1
    rw [Nat.mul_one, Nat.or_comm] at h5
    rw [← h5]; omega
theorem or_and0 {K r Z : Nat} : (K ||| 2 ^ r) &&& Z = 0 ↔ K &&& Z = 0 ∧ Z.testBit r = false := by
  rw [Nat.and_or_distrib_right, Nat.or_eq_zero_iff, Nat.and_comm (2 ^ r) Z, ← bit_and]
theorem and_or0 {K Z W : Nat} : K &&& (Z ||| W) = 0 ↔ K &&& Z = 0 ∧ K &&& W = 0 := by
  rw [Nat.and_or_distrib_left, Nat.or_eq_zero_iff]
theorem s_tryDown {d : DV} (ok : DOK d) {uu vv : Nat → Int32} (hu : ∀ k, k < vn d → uu k = nI (vF d k)) (hv : ∀ k, k < vn d → vv k = nI (mk (cl (vP d) (vB d) (vE d) k) (vn d))) : ∀ (r fuel Z : Nat), r ≤ vn d → r < fuel → Z < 2 ^ 14 → ∀ {Q : Int32 → Prop}, (∀ x, bestBar d r Z x → Q (nI x)) → wn_X0_tryDownFrom uu vv fuel (nI r - (1 : Int32)) (nI Z) Q := by
  have hn := ok.1
  intro r
  induction r with
  | zero =>
    intro fuel Z hr hf hZ Q h
    obtain ⟨f, rfl⟩ : ∃ f, fuel = f + 1 := ⟨fuel - 1, by omega⟩
    have hz : su 0 (vF d) (vn d) = 0 := by
      have : ∀ n, su 0 (vF d) n = 0 := by
        intro n
        induction n with
        | zero => rfl
        | succ n ih => unfold su; rw [Nat.zero_testBit, ih]; rfl
      exact this _
    rw [wn_X0_tryDownFrom]
    refine ⟨fun _ => h 0 ⟨⟨0, by decide, chB_0 d, Nat.zero_and _, hz⟩, fun S hS _ _ => ?_⟩, fun hc => absurd (by decide) hc⟩
    have h0 : S = 0 := by have : S < 1 := hS; omega
    rw [h0, hz]
    exact Nat.le_refl 0
  | succ r ih =>
    intro fuel Z hr hf hZ Q h
    obtain ⟨f, rfl⟩ : ∃ f, fuel = f + 1 := ⟨fuel - 1, by omega⟩
    have e14 : (nI r < (14 : Int32)) = (r < 14) := by rw [z_14, z_lt (by omega) (by decide)]
    have e0 : (nI r < 0) = (r < 0) := by rw [z_0, z_lt (by omega) (by decide)]
    have hv14 : vp_in (nI r) 14 := z_in (by omega) (by decide)
    rw [nI_pred, wn_X0_tryDownFrom, e14, e0, z_cl (n := r) (by omega), hu r (by omega), hv r (by omega), z_or]
    refine ⟨fun hc => absurd hc (by omega), fun _ => ⟨fun _ => ih f Z (by omega) (by omega) hZ (fun x hx => s_isIn (by omega) (by omega) ?_), fun hc => absurd (by omega) hc⟩⟩
    have hpr : (2:Nat) ^ r < 2 ^ (r + 1) := Nat.pow_lt_pow_right (by decide) (by omega)
    obtain ⟨⟨S0, s1, s2, s3, s4⟩, hmx⟩ := hx
    have hx700 : x ≤ 700 := by rw [← s4]; exact suF_le ok S0
    cases hb : Z.testBit r
    · refine ⟨fun _ => ⟨hv14, hv14, ?_⟩, fun hc => absurd rfl hc⟩
      have hml : mk (cl (vP d) (vB d) (vE d) r) (vn d) < 2 ^ 14 := Nat.lt_of_lt_of_le (mk_lt _ _) (Nat.pow_le_pow_right (by decide) hn)
      refine ih f (Z ||| mk (cl (vP d) (vB d) (vE d) r) (vn d)) (by omega) (by omega) (Nat.or_lt_two_pow hZ hml) (fun y hy => ?_)
      obtain ⟨⟨K0, k1, k2, k3, k4⟩, hmy⟩ := hy
      have hy700 : y ≤ 700 := by rw [← k4]; exact suF_le ok K0
      have hFr := (ok.2.2.1 r (by omega)).2.2
      rw [and_or0] at k3
      have hKb : K0.testBit r = false := Nat.testBit_lt_two_pow k1
      have withS : ∀ K, K < 2 ^ r → chB d (K ||| 2 ^ r) = true → (K ||| 2 ^ r) &&& Z = 0 → su (K ||| 2 ^ r) (vF d) (vn d) ≤ vF d r + y := by
        intro K hK hc hz
        rw [chB_put (by omega), Bool.and_eq_true, decide_eq_true_eq] at hc
        rw [or_and0] at hz
        rw [su_put (vF d) (Nat.testBit_lt_two_pow hK) (vn d) (by omega)]
        have := hmy K hK hc.1 (by rw [and_or0, Nat.and_comm K (mk _ _)]; exact ⟨hz.1, hc.2⟩)
        omega
      have w0 : su (K0 ||| 2 ^ r) (vF d) (vn d) = vF d r + y := by rw [su_put (vF d) hKb (vn d) (by omega), k4]; omega
      have w1 : chB d (K0 ||| 2 ^ r) = true := by
        rw [chB_put (by omega), k2, Nat.and_comm, decide_eq_true k3.2]; rfl
      have w2 : (K0 ||| 2 ^ r) &&& Z = 0 := or_and0.mpr ⟨k3.1, hb⟩
      have w3 : K0 ||| 2 ^ r < 2 ^ (r + 1) := Nat.or_lt_two_pow (by omega) hpr
      have ez : (nI (vF d r) + nI y < nI x) = (vF d r + y < x) := by rw [nI_add, z_lt (by omega) (by omega)]
      by_cases hlt : nI (vF d r) + nI y < nI x
      · rw [if_pos hlt]
        rw [ez] at hlt
        refine h x ⟨⟨S0, by omega, s2, s3, s4⟩, fun S hS hc hz => ?_⟩
        rcases split_top hS with h1 | ⟨K, hK, rfl⟩
        · exact hmx S h1 hc hz
        · have := withS K hK hc hz; omega
      · rw [if_neg hlt]
        rw [ez] at hlt
        rw [nI_add]
        refine h _ ⟨⟨K0 ||| 2 ^ r, w3, w1, w2, w0⟩, fun S hS hc hz => ?_⟩
        rcases split_top hS with h1 | ⟨K, hK, rfl⟩
        · have := hmx S h1 hc hz; omega
        · exact withS K hK hc hz
    · refine ⟨fun hc => absurd hc (by decide), fun _ => h x ⟨⟨S0, by omega, s2, s3, s4⟩, fun S hS hc hz => ?_⟩⟩
      rcases split_top hS with h1 | ⟨K, hK, rfl⟩
      · exact hmx S h1 hc hz
      · rw [or_and0, hb] at hz; cases hz.2
theorem s_triedFame {d : DV} (ok : DOK d) {db de df hc0 : Nat → Int32} {dc dp dk : Int32} (hd : DC d db de df dc dp dk) {Q : Int32 → (Nat → Int32) → Prop} (h : ∀ (x : Nat) (hc' : Nat → Int32), bestBar d (vn d) 0 x → Q (nI x) hc') : wn_X0_triedFame hc0 db de df dc dp Q := by
  have hn := ok.1
  have hdc : dc = nI (vn d) := hd.1
  have hD := hd.r ok
  have key : ∀ (m k : Nat) (hh : Nat → Int32), k + m = vn d → (∀ j, j < k → hh j = nI (mk (cl (vP d) (vB d) (vE d) j) (vn d))) → wl_n_X0_triedFame_2 db de df dc dp Q (m + 1) hh (nI k) := by
    intro m
    induction m with
    | zero =>
      intro k hh hk hF
      have e1 : (dc ≤ nI k) = (vn d ≤ k) := by rw [hdc, z_le (by omega) (by omega)]
      rw [wl_n_X0_triedFame_2, e1]
      refine ⟨fun _ => ?_, fun hc => absurd (by omega) hc⟩
      have go := s_tryDown ok (uu := df) (vv := hh) (fun j hj => (hd.2.2.2 j hj).2.2) (fun j hj => hF j (by omega)) (vn d) 16 0 (Nat.le_refl _) (by omega) (by decide) (Q := fun r2 => Q r2 hh) (fun x hx => h x hh hx)
      rw [← hdc] at go
      exact go
    | succ m ih =>
      intro k hh hk hF
      have e1 : (dc ≤ nI k) = (vn d ≤ k) := by rw [hdc, z_le (by omega) (by omega)]
      rw [wl_n_X0_triedFame_2, e1]
      refine ⟨fun hc => absurd hc (by omega), fun _ => s_conflictsWith hD (by omega) ⟨z_in (by omega) (by decide), ?_⟩⟩
      rw [z_cl (by omega), nI_1]
      refine ih (k + 1) _ (by omega) (fun j hj => ?_)
      by_cases hjk : j = k
      · subst hjk; exact pk_us
      · rw [pk_un hjk]; exact hF j (by omega)
  exact ⟨vn d + 1, key (vn d) 0 hc0 (by omega) (fun j hj => absurd hj (by omega))⟩
theorem best_eq {d : DV} {x b : Nat} (h1 : bestBar d (vn d) 0 x) (h2 : bestOf d 0 (2 ^ vn d) b) : su b (vF d) (vn d) = x := by
  obtain ⟨⟨S, s1, s2, -, s4⟩, hm⟩ := h1
  obtain ⟨b1, b2, b3⟩ := h2
  have k1 := hm b b1 b2.1 (Nat.and_zero b)
  have k2 := (b3 S s1 ⟨s2, Nat.and_zero S⟩).1
  omega
