/-! the reference's rows: copying, saving, changing -/
theorem z_45 : (45 : Int32) = nI 45 := rfl
theorem z_225 : (225 : Int32) = nI 225 := rfl
theorem DM.ext {d : DV} (hn : vn d ≤ 14) {y y' : Nat → Int32} (h : DM d y) (e : ∀ k, k < 45 → y' k = y k) : DM d y' := by
  obtain ⟨h1, h2, h3, h4⟩ := h
  refine ⟨fun k hk => ?_, ?_, ?_, ?_⟩
  · rw [e k (by omega), e (14 + k) (by omega), e (28 + k) (by omega)]; exact h1 k hk
  · rw [e 42 (by decide)]; exact h2
  · rw [e 43 (by decide)]; exact h3
  · rw [e 44 (by decide)]; exact h4
/-- the saved states as the reference holds them -/
def MS (S : List DV) (yb : Nat → Int32) (zs : Int32) : Prop := zs = nI S.length ∧ S.length ≤ 6 ∧ (∀ d ∈ S, vn d ≤ 14) ∧ ∀ (i : Nat) (d : DV), S[i]? = some d → DM d (fun k => yb (45 * i + k))
/-! what is asked, in naturals -/
theorem isT_of {x y : Int32} (h : isT x y) : ∃ b e : Nat, x = nI b ∧ y = nI e ∧ b < e ∧ e ≤ 96 := by
  obtain ⟨h1, h2, h3, h4⟩ := h
  have hx : ¬ x < 0 := by rw [Int32.lt_iff_toInt_lt, ti0]; omega
  have hy : ¬ y < 0 := by rw [Int32.lt_iff_toInt_lt, ti0]; omega
  obtain ⟨b, hb, rfl⟩ := nI_of hx
  obtain ⟨e, he, rfl⟩ := nI_of hy
  rw [nI_toInt hb] at h1 h2 h3
  rw [nI_toInt he] at h3 h4
  exact ⟨b, e, rfl, rfl, by omega, by omega⟩
theorem isF_of {x : Int32} (h : isF x) : ∃ f : Nat, x = nI f ∧ 1 ≤ f ∧ f ≤ 50 := by
  obtain ⟨h1, h2⟩ := h
  have hx : ¬ x < 0 := by rw [Int32.lt_iff_toInt_lt, ti0]; omega
  obtain ⟨b, hb, rfl⟩ := nI_of hx
  rw [nI_toInt hb] at h1 h2
  exact ⟨b, rfl, by omega, by omega⟩
