/-! calls that change nothing -/
theorem s_reqD {n : Nat} (hn : n ≤ 14) {dc : Int32} (hd : dc = nI n) {x : Int32} {Q : Prop} {X : String → Prop} (h1 : ∀ r : Nat, x = nI r → r < n → Q) (h0 : ¬ isN n x → X "java/lang/IndexOutOfBoundsException") : wx_X5_requireRehearsal dc x Q X := by
  subst hd
  refine s_reqR hn (fun h => ?_) h0
  obtain ⟨r, hr, e⟩ := isN_of h (by omega)
  exact h1 r e hr
section
variable {d : DV} {yn : Nat → Int32} {za : Int32}
theorem m_noD (hn : vn d ≤ 14) (hm : DM d yn) {r : Nat} (hr : r < vn d) {Q : Int32 → Int32 → Prop} (h : Q 0 0) : wn_X6_noOne yn za (nI r) Q := by
  refine m_noOne hn hm (fun _ => h) (fun hb => absurd ?_ hb)
  unfold isN
  rw [nI_toInt (by omega)]
  omega
theorem m_share (ok : DOK d) (hm : DM d yn) {Q : UInt64 → Prop} (h : Q (FP.ddiv (FP.i2d (nI (su (vK d) (fun k => vE d k - vB d k) (vn d)))) (4636455816377925632 : UInt64))) : wn_X6_share yn Q := by
  have hn := ok.1
  obtain ⟨F, hF⟩ : ∃ F : Nat → Nat, F = fun k => vE d k - vB d k := ⟨_, rfl⟩
  rw [← hF] at h
  have hle : su (vK d) F (vn d) ≤ 96 * vn d := su_le _ _ 96 _ (fun k hk => by rw [hF]; have := (ok.2.2.1 k hk).2.1; show vE d k - vB d k ≤ 96; omega)
  have key : ∀ m k : Nat, k + m = vn d → wl_n_X6_share_4 yn Q (m + 1) (nI (su (vK d) F k)) (nI k) := by
    intro m
    induction m with
    | zero =>
      intro k hk
      rw [wl_n_X6_share_4, z44, hm.2.2.2, z_le (by omega) (by omega)]
      refine ⟨zi44, fun _ => ?_, fun hc => absurd (by omega) hc⟩
      rw [show k = vn d by omega]
      exact ⟨share_n64 (by omega), h⟩
    | succ m ih =>
      intro k hk
      have ih := ih (k + 1) (by omega)
      unfold su at ih
      rw [wl_n_X6_share_4, z44, hm.2.2.2, z_le (by omega) (by omega), nI_1 k]
      refine ⟨zi44, fun hc => absurd hc (by omega), fun _ => m_isIn hm ok.K31 (by omega) ?_⟩
      cases hb : (vK d).testBit k
      · rw [hb] at ih
        refine ⟨fun _ => ?_, fun hx => absurd rfl hx⟩
        rw [z_0, nI_add, Nat.add_zero]
        exact ih
      · rw [hb] at ih
        obtain ⟨c1, c2, -⟩ := hm.1 k (by omega)
        have hlt := (ok.2.2.1 k (by omega)).1
        refine ⟨fun hx => absurd hx (by decide), fun _ => ?_⟩
        rw [z14p, z_cl (by omega), z_cl (by omega), c1, c2, z_sub (by omega), nI_add]
        refine ⟨z_in (by omega) (by decide), z_in (by omega) (by decide), fun v hv => ?_⟩
        subst hv
        rw [hF] at ih ⊢
        exact ih
  exact ⟨vn d + 1, key (vn d) 0 (by omega)⟩
end
