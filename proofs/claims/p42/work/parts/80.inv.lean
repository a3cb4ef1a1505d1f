/-! the invariant of law's loop -/
theorem psh_ok {S : List DV} {d : DV} (h : ∀ e ∈ S, DOK e) (hd : DOK d) : ∀ e ∈ psh S d, DOK e := by
  intro e he
  unfold psh at he
  rcases List.mem_append.mp he with h1 | h1
  · by_cases h6 : S.length = 6
    · rw [if_pos h6] at h1; exact h e (List.mem_of_mem_tail h1)
    · rw [if_neg h6] at h1; exact h e h1
  · rw [List.mem_singleton.mp h1]; exact hd
theorem upO_ok {N : Nat → Option DV} {i : Nat} {d : DV} (h : ∀ i, i < 2 → ∀ e, N i = some e → DOK e) (hd : DOK d) : ∀ j, j < 2 → ∀ e, upO N i d j = some e → DOK e := by
  intro j hj e he
  unfold upO at he
  by_cases hji : j = i
  · rw [if_pos hji] at he; cases he; exact hd
  · rw [if_neg hji] at he; exact h j hj e he
theorem TOK.put {n : Nat} {t : Nat → Nat} (h : TOK n t) (hn : n < 60) {c : Nat} (h1 : 33 ≤ c) (h2 : c ≤ 126) : TOK (n + 1) (upN t n c) := by
  refine ⟨by omega, fun k hk => ?_⟩
  by_cases hkn : k = n
  · subst hkn; rw [upN_s]; exact ⟨h1, h2⟩
  · rw [upN_n hkn]; exact h.2 k (by omega)
theorem nI_inj {a b : Nat} (ha : a < 2 ^ 31) (hb : b < 2 ^ 31) (h : nI a = nI b) : a = b := (nI_eq ha hb).mp h
theorem hv0 : vp_in (0 : Int32) 1 := z_in (n := 0) (by decide) (by decide)
