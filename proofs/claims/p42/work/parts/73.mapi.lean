/-! the reference's calls that change a day -/
theorem DM.mov {d : DV} (hn : vn d ≤ 14) {y : Nat → Int32} (h : DM d y) {r : Nat} (hr : r < vn d) (b e : Nat) : DM (movD d r b e) (upd (upd y r (nI b)) (14 + r) (nI e)) := by
  obtain ⟨h1, h2, h3, h4⟩ := h
  refine ⟨fun k hk => ?_, ?_, ?_, ?_⟩
  · have hk : k < vn d := hk
    obtain ⟨a1, a2, a3⟩ := h1 k hk
    show _ = nI (upN (vB d) r b k) ∧ _ = nI (upN (vE d) r e k) ∧ _
    by_cases hkr : k = r
    · subst hkr
      rw [upN_s, upN_s, pk_us, pk_un (by omega), pk_us, pk_un (by omega), pk_un (by omega)]
      exact ⟨rfl, rfl, a3⟩
    · rw [upN_n hkr, upN_n hkr, pk_un (by omega), pk_un (by omega), pk_un (by omega), pk_un (by omega), pk_un (by omega), pk_un (by omega)]
      exact ⟨a1, a2, a3⟩
  · rw [pk_un (by omega), pk_un (by omega)]; exact h2
  · rw [pk_un (by omega), pk_un (by omega)]; exact h3
  · rw [pk_un (by omega), pk_un (by omega)]; exact h4
theorem DM.fam {d : DV} (hn : vn d ≤ 14) {y : Nat → Int32} (h : DM d y) {r : Nat} (hr : r < vn d) (f : Nat) : DM (famD d r f) (upd y (28 + r) (nI f)) := by
  obtain ⟨h1, h2, h3, h4⟩ := h
  refine ⟨fun k hk => ?_, ?_, ?_, ?_⟩
  · have hk : k < vn d := hk
    obtain ⟨a1, a2, a3⟩ := h1 k hk
    show _ ∧ _ ∧ _ = nI (upN (vF d) r f k)
    by_cases hkr : k = r
    · subst hkr
      rw [upN_s, pk_us, pk_un (by omega), pk_un (by omega)]
      exact ⟨a1, a2, rfl⟩
    · rw [upN_n hkr, pk_un (by omega), pk_un (by omega), pk_un (by omega)]
      exact ⟨a1, a2, a3⟩
  · rw [pk_un (by omega)]; exact h2
  · rw [pk_un (by omega)]; exact h3
  · rw [pk_un (by omega)]; exact h4
theorem DM.pau {d : DV} (hn : vn d ≤ 14) {y : Nat → Int32} (h : DM d y) (q : Nat) : DM (pauD d q) (upd y 43 (nI q)) := by
  obtain ⟨h1, h2, h3, h4⟩ := h
  refine ⟨fun k hk => ?_, ?_, pk_us, ?_⟩
  · have hk : k < vn d := hk
    rw [pk_un (by omega), pk_un (by omega), pk_un (by omega)]
    exact h1 k hk
  · rw [pk_un (by omega)]; exact h2
  · rw [pk_un (by omega)]; exact h4
theorem DM.boo {d : DV} (hn : vn d ≤ 14) {y : Nat → Int32} (h : DM d y) (S : Nat) : DM (booD d S) (upd y 42 (nI S)) := by
  obtain ⟨h1, h2, h3, h4⟩ := h
  refine ⟨fun k hk => ?_, pk_us, ?_, ?_⟩
  · have hk : k < vn d := hk
    rw [pk_un (by omega), pk_un (by omega), pk_un (by omega)]
    exact h1 k hk
  · rw [pk_un (by omega)]; exact h3
  · rw [pk_un (by omega)]; exact h4
def shM (y : Nat → Int32) (o r k j : Nat) : Int32 := if r ≤ j ∧ j < k then y (o + (j + 1)) else y (o + j)
theorem shM_no {y : Nat → Int32} {o r k j : Nat} (h : k ≤ j) : shM y o r k j = y (o + j) := by unfold shM; rw [if_neg (by omega)]
theorem shM_s {y : Nat → Int32} {o r k j : Nat} (h : j ≠ k) : shM y o r (k + 1) j = shM y o r k j := by
  unfold shM
  by_cases h1 : r ≤ j ∧ j < k
  · rw [if_pos h1, if_pos (by omega)]
  · rw [if_neg h1, if_neg (by omega)]
theorem shM_k {y : Nat → Int32} {o r k : Nat} (h : r ≤ k) : shM y o r (k + 1) k = y (o + (k + 1)) := by unfold shM; rw [if_pos (by omega)]
section
variable {S : List DV} {d : DV} {yn yb : Nat → Int32} {za zs : Int32}
end
