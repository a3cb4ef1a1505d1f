/-! the reference gives rooms -/
theorem tst_bit {m k : Nat} (hm : m < 2 ^ 31) (hk : k < 32) : (nI m >>> (nI k &&& 31)) &&& (1 : Int32) = nI (m.testBit k).toNat := by
  rw [z_shr hm hk, z_1, z_and, Nat.and_one_is_mod, bit_shr]
theorem tb1 (b : Bool) : (nI b.toNat = (1 : Int32)) = (b = true) := by cases b <;> simp <;> decide
theorem tb0 (b : Bool) : (nI b.toNat = (0 : Int32)) = (b = false) := by cases b <;> simp <;> decide
section
variable {d : DV} {yn : Nat → Int32} {L : List Nat} {R : Nat → Nat}
theorem m_giveRoom (ok : DOK d) (hL : ordB d L) (hg : gvn d L R (vn d)) {j r x tr m : Nat} {yr : Nat → Int32} {G : Nat} {Q : Int32 → (Nat → Int32) → Prop} {k6 : (Nat → Int32) → Int32 → Int32 → Int32 → Prop} (hj : j < vn d) (hr : L[j]? = some r) (hG : G < 2 ^ 14) (hx : x ≤ 14) (hm : m < 2 ^ 14) (hb : ∀ q, m.testBit q = true ↔ flR d L R j r q)
    (hk : k6 (upd yr r (nI (R r))) (nI (G ||| 2 ^ r)) (nI (if x < R r + 1 then R r + 1 else x)) (nI (tr + 1))) : ∃ fu, wl_n_X6_give_175 yn Q k6 fu yr (nI G) (nI x) (nI tr) (nI r) (nI m) 0 := by
  have hn := ok.1
  have hrn := hL.lt hr
  have hgj := hg j r hj hr
  have hRr := gvn_le hg j r hj hr
  have key : ∀ t c : Nat, c + t = R r → wl_n_X6_give_175 yn Q k6 (t + 1) yr (nI G) (nI x) (nI tr) (nI r) (nI m) (nI c) := by
    intro t
    induction t with
    | zero =>
      intro c hc
      have hcR : c = R r := by omega
      have hf : m.testBit c = false := by
        cases hx : m.testBit c
        · rfl
        · rw [hb, hcR] at hx; exact absurd hx hgj.1
      rw [wl_n_X6_give_175, tst_bit (by omega) (by omega), hf, tb1, z_bit r (by omega), z_or, nI_1 c, nI_1 tr, z_le (by omega) (by omega), z_cl (n := r) (by omega)]
      subst hcR
      refine ⟨fun _ => ⟨z_in (by omega) (by decide), fun hle => ?_, fun hle => ?_⟩, fun hx => by cases hx⟩
      · rw [if_neg (by omega)] at hk; exact hk
      · rw [if_pos (by omega)] at hk; exact hk
    | succ t ih =>
      intro c hc
      rw [wl_n_X6_give_175, tst_bit (by omega) (by omega), (hb c).mpr (hgj.2 c (by omega)), tb1, nI_1 c]
      exact ⟨fun hx => absurd rfl hx, fun _ => ih (c + 1) (by omega)⟩
  exact ⟨R r + 1, key (R r) 0 (by omega)⟩
theorem m_giveTaken (ok : DOK d) (hm : DM d yn) (hL : ordB d L) (hg : gvn d L R (vn d)) {j r x tr : Nat} {yr : Nat → Int32} {G : Nat} {Q : Int32 → (Nat → Int32) → Prop} {k6 : (Nat → Int32) → Int32 → Int32 → Int32 → Prop} (hj : j < vn d) (hr : L[j]? = some r) (hG : G < 2 ^ 14) (hGb : ∀ k, G.testBit k = true ↔ preL L j k) (hR : ∀ k, preL L j k → yr k = nI (R k)) (hx : x ≤ 14)
    (hk : k6 (upd yr r (nI (R r))) (nI (G ||| 2 ^ r)) (nI (if x < R r + 1 then R r + 1 else x)) (nI (tr + 1))) : ∃ fu, wl_n_X6_give_100 yn Q k6 fu yr (nI G) (nI x) (nI tr) (nI r) 0 0 := by
  have hn := ok.1
  have hrn := hL.lt hr
  have key : ∀ t c m : Nat, c + t = vn d → m < 2 ^ 14 → (∀ q, m.testBit q = true ↔ ∃ k, k < c ∧ preL L j k ∧ cl (vP d) (vB d) (vE d) r k = true ∧ R k = q) → wl_n_X6_give_100 yn Q k6 (t + 1) yr (nI G) (nI x) (nI tr) (nI r) (nI m) (nI c) := by
    intro t
    induction t with
    | zero =>
      intro c m hc hm1 hb
      rw [wl_n_X6_give_100, z44, hm.2.2.2, z_le (by omega) (by omega)]
      refine ⟨zi44, fun _ => m_giveRoom ok hL hg hj hr hG hx hm1 (fun q => ?_) hk, fun hx => absurd (by omega) hx⟩
      rw [hb]
      exact ⟨fun ⟨k, _, h2, h3, h4⟩ => ⟨k, h2, h3, h4⟩, fun ⟨k, h2, h3, h4⟩ => ⟨k, by have := hL.nlt h2; omega, h2, h3, h4⟩⟩
    | succ t ih =>
      intro c m hc hm1 hb
      have skip : (G.testBit c = true → cl (vP d) (vB d) (vE d) r c = false) → wl_n_X6_give_100 yn Q k6 (t + 1) yr (nI G) (nI x) (nI tr) (nI r) (nI m) (nI (c + 1)) := by
        intro hs
        refine ih (c + 1) m (by omega) hm1 (fun q => ?_)
        rw [hb]
        constructor
        · rintro ⟨k, h1, h2⟩
          exact ⟨k, by omega, h2⟩
        · rintro ⟨k, h1, h2, h3, h4⟩
          by_cases hkc : k = c
          · subst hkc; rw [hs ((hGb k).mpr h2)] at h3; cases h3
          · exact ⟨k, by omega, h2, h3, h4⟩
      have s140 : (G.testBit c = true → cl (vP d) (vB d) (vE d) r c = false) → wj_n_X6_give_140 yn Q (fun z0 z1 z2 z3 z4 z5 z6 => wl_n_X6_give_100 yn Q k6 (t + 1) z0 z1 z2 z3 z4 z5 z6) k6 yr (nI G) (nI x) (nI tr) (nI r) (nI m) (nI c) := by
        intro hs
        unfold wj_n_X6_give_140 wj_n_X6_give_141 wj_n_X6_give_163
        refine ⟨fun _ => ?_, fun hx => absurd rfl hx⟩
        show wl_n_X6_give_100 yn Q k6 (t + 1) yr (nI G) (nI x) (nI tr) (nI r) (nI m ||| 0) (nI c + 1)
        rw [z_0, z_or, Nat.or_zero, nI_1]
        exact skip hs
      rw [wl_n_X6_give_100, z44, hm.2.2.2, z_le (by omega) (by omega), tst_bit (by omega) (by omega), tb1]
      refine ⟨zi44, fun hx => absurd hx (by omega), fun _ => ⟨fun hx => s140 (fun h => absurd h hx), fun hGc => m_clash ok.w hm hrn (by omega) ?_⟩⟩
      have hpc := (hGb c).mp hGc
      cases hc2 : cl (vP d) (vB d) (vE d) r c
      · exact ⟨fun _ => s140 (fun _ => hc2), fun hx => absurd rfl hx⟩
      · refine ⟨fun hx => absurd hx (by decide), fun _ => ?_⟩
        have hRc := gvn_14 ok hL hg (k := c) (by omega)
        unfold wj_n_X6_give_141 wj_n_X6_give_163
        refine ⟨fun hx => absurd hx (by decide), fun _ => ⟨z_in (by omega) (by decide), ?_⟩⟩
        show wl_n_X6_give_100 yn Q k6 (t + 1) yr (nI G) (nI x) (nI tr) (nI r) (nI m ||| ((1 : Int32) <<< ((yr (nI c).toNatClampNeg) &&& 31))) (nI c + 1)
        rw [z_cl (n := c) (by omega), hR c hpc, z_bit (R c) (by omega), z_or, nI_1]
        refine ih (c + 1) (m ||| 2 ^ R c) (by omega) (or_lt14 hm1 hRc) (fun q => ?_)
        rw [or_bit, hb]
        constructor
        · rintro (⟨k, h1, h2⟩ | h)
          · exact ⟨k, by omega, h2⟩
          · exact ⟨c, by omega, hpc, hc2, h⟩
        · rintro ⟨k, h1, h2, h3, h4⟩
          by_cases hkc : k = c
          · subst hkc; exact Or.inr h4
          · exact Or.inl ⟨k, by omega, h2, h3, h4⟩
  exact ⟨vn d + 1, key (vn d) 0 0 (by omega) (by decide) (fun q => by
    rw [Nat.zero_testBit]
    exact ⟨fun hx => (by cases hx), fun ⟨k, h1, _⟩ => absurd h1 (by omega)⟩)⟩
theorem m_giveNext (ok : DOK d) (hm : DM d yn) (hL : ordB d L) {j x tr : Nat} {yr : Nat → Int32} {G : Nat} {Q : Int32 → (Nat → Int32) → Prop} {k6 : (Nat → Int32) → Int32 → Int32 → Int32 → Prop} (hj : j < vn d) (hG : G < 2 ^ 14) (hGb : ∀ k, G.testBit k = true ↔ preL L j k)
    (hk : ∀ r, L[j]? = some r → ∃ fu, wl_n_X6_give_100 yn Q k6 fu yr (nI G) (nI x) (nI tr) (nI r) 0 0) : ∃ fu, wl_n_X6_give_23 yn Q k6 fu yr (nI G) (nI x) (nI tr) (-1 : Int32) 0 := by
  have hn := ok.1
  obtain ⟨r0, hr0⟩ := hL.at hj
  have hr0n := hL.lt hr0
  have key : ∀ (t c : Nat) (y : Int32), c + t = vn d → ((y = -1 ∧ ∀ k, k < c → preL L j k) ∨ ∃ b, y = nI b ∧ b < c ∧ ¬ preL L j b ∧ ∀ k, k < c → ¬ preL L j k → k = b ∨ vB d b < vB d k ∨ (vB d b = vB d k ∧ b < k)) → wl_n_X6_give_23 yn Q k6 (t + 1) yr (nI G) (nI x) (nI tr) y (nI c) := by
    intro t
    induction t with
    | zero =>
      intro c y hc hy
      rw [wl_n_X6_give_23, z44, hm.2.2.2, z_le (by omega) (by omega)]
      refine ⟨zi44, fun _ => ?_, fun hx => absurd (by omega) hx⟩
      rcases hy with ⟨-, h⟩ | ⟨b, rfl, h1, h2, h3⟩
      · exact absurd (h r0 (by omega)) (hL.not hr0)
      · have e : b = r0 := by
          rcases h3 r0 (by omega) (hL.not hr0) with h4 | h4
          · exact h4.symm
          · obtain ⟨i, i1, i2⟩ := hL.mem (k := b) (by omega)
            rcases Nat.lt_trichotomy i j with h5 | h5 | h5
            · exact absurd ⟨i, h5, i2⟩ h2
            · subst h5; rw [i2] at hr0; cases hr0; rfl
            · have := hL.rk h5 hr0 i2
              omega
        subst e
        exact hk b hr0
    | succ t ih =>
      intro c y hc hy
      have hBc := ok.2.2.1 c (by omega)
      have hyc := (hm.1 c (by omega)).1
      have keep : (¬ preL L j c → ∃ b, y = nI b ∧ b < c ∧ ¬ preL L j b ∧ vB d b ≤ vB d c) → wl_n_X6_give_23 yn Q k6 (t + 1) yr (nI G) (nI x) (nI tr) y (nI c + 1) := by
        intro hs
        rw [nI_1]
        refine ih (c + 1) y (by omega) ?_
        rcases hy with ⟨h1, h⟩ | ⟨b, h1, h2, h3, h4⟩
        · refine Or.inl ⟨h1, fun k hk1 => ?_⟩
          by_cases hkc : k = c
          · subst hkc
            refine Classical.byContradiction (fun hnp => ?_)
            obtain ⟨b, _, hb1, hb2, _⟩ := hs hnp
            exact hb2 (h b hb1)
          · exact h k (by omega)
        · refine Or.inr ⟨b, h1, by omega, h3, fun k hk1 hk2 => ?_⟩
          by_cases hkc : k = c
          · subst hkc
            obtain ⟨b2, e1, hb1, hb2, hb3⟩ := hs hk2
            have e2 : b = b2 := nI_inj (by omega) (by omega) (h1.symm.trans e1)
            subst e2
            omega
          · exact h4 k (by omega) hk2
      have take : ¬ preL L j c → (∀ k, k < c → ¬ preL L j k → vB d c < vB d k) → wl_n_X6_give_23 yn Q k6 (t + 1) yr (nI G) (nI x) (nI tr) (nI c) (nI c + 1) := by
        intro h1 h2
        rw [nI_1]
        refine ih (c + 1) (nI c) (by omega) (Or.inr ⟨c, rfl, by omega, h1, fun k hk1 hk2 => ?_⟩)
        by_cases hkc : k = c
        · exact Or.inl hkc
        · exact Or.inr (Or.inl (h2 k (by omega) hk2))
      rw [wl_n_X6_give_23, z44, hm.2.2.2, z_le (by omega) (by omega), tst_bit (by omega) (by omega), tb0]
      refine ⟨zi44, fun hx => absurd hx (by omega), fun _ => ⟨fun hGc => ?_, fun hGc => ?_⟩⟩
      · unfold wj_n_X6_give_49
        refine ⟨fun _ => keep (fun hnp => ?_), fun hx => absurd rfl hx⟩
        have hb : G.testBit c = true := by
          cases hq : G.testBit c
          · exact absurd hq hGc
          · rfl
        exact absurd ((hGb c).mp hb) hnp
      · have hnp : ¬ preL L j c := fun h => by rw [(hGb c).mpr h] at hGc; cases hGc
        unfold wj_n_X6_give_49 wj_n_X6_give_79
        refine ⟨fun hx => absurd hx (by decide), fun _ => ?_⟩
        rcases hy with ⟨rfl, h⟩ | ⟨b, rfl, h1, h2, h3⟩
        · exact ⟨fun _ => take hnp (fun k hk1 hk2 => absurd (h k hk1) hk2), fun hx => absurd rfl hx⟩
        · have hBb := ok.2.2.1 b (by omega)
          refine ⟨fun hx => absurd hx (nI_neg1 (by omega)), fun _ => ⟨z_in (by omega) (by decide), z_in (by omega) (by decide), ?_⟩⟩
          rw [z_cl (n := b) (by omega), z_cl (n := c) (by omega), hyc, (hm.1 b (by omega)).1, z_le (by omega) (by omega)]
          refine ⟨fun hle => keep (fun _ => ⟨b, rfl, h1, h2, hle⟩), fun hle => take hnp (fun k hk1 hk2 => ?_)⟩
          rcases h3 k hk1 hk2 with rfl | h4
          · omega
          · omega
  exact ⟨vn d + 1, key (vn d) 0 (-1) (by omega) (Or.inl ⟨rfl, fun k hk => absurd hk (by omega)⟩)⟩
theorem m_give (ok : DOK d) (hm : DM d yn) (hL : ordB d L) (hg : gvn d L R (vn d)) {yr : Nat → Int32} {Q : Int32 → (Nat → Int32) → Prop} (h : ∀ (x : Nat) (yr' : Nat → Int32), x ≤ 14 → mxO (fun k => k < vn d) R x → (∀ k, k < vn d → yr' k = nI (R k)) → Q (nI x) yr') : wn_X6_give yn yr Q := by
  have hn := ok.1
  have key : ∀ (t j G x : Nat) (yr : Nat → Int32), j + t = vn d → G < 2 ^ 14 → (∀ k, G.testBit k = true ↔ preL L j k) → x ≤ 14 → mxO (preL L j) R x → (∀ k, preL L j k → yr k = nI (R k)) → wl_n_X6_give_6 yn Q (t + 1) yr (nI G) (nI x) (nI j) := by
    intro t
    induction t with
    | zero =>
      intro j G x yr hj hG hGb hx hmx hR
      rw [wl_n_X6_give_6, z44, hm.2.2.2, z_le (by omega) (by omega)]
      have e : j = vn d := by omega
      subst e
      exact ⟨zi44, fun _ => h x yr hx (mxO_congr hmx (fun k => preL_all hL)) (fun k hk => hR k ((preL_all hL).mpr hk)), fun hx => absurd (Nat.le_refl _) hx⟩
    | succ t ih =>
      intro j G x yr hj hG hGb hx hmx hR
      rw [wl_n_X6_give_6, z44, hm.2.2.2, z_le (by omega) (by omega)]
      refine ⟨zi44, fun hx => absurd hx (by omega), fun _ => m_giveNext ok hm hL (by omega) hG hGb (fun r hr => m_giveTaken ok hm hL hg (by omega) hr hG hGb hR hx ?_)⟩
      have hrn := hL.lt hr
      have hRr := gvn_14 ok hL hg hrn
      show wl_n_X6_give_6 yn Q (t + 1) _ _ _ _
      refine ih (j + 1) _ _ _ (by omega) (or_lt14 hG (by omega)) (fun k => ?_) (by split <;> omega) (mxO_step hmx (preL_succ hr)) (fun k hk => ?_)
      · rw [or_bit, hGb, preL_succ hr]
        exact ⟨fun hh => hh.imp id Eq.symm, fun hh => hh.imp id Eq.symm⟩
      · rcases (preL_succ hr k).mp hk with h5 | rfl
        · have hkr : k ≠ r := fun e => by subst e; exact hL.not hr h5
          rw [pk_un hkr]; exact hR k h5
        · exact pk_us
  exact ⟨vn d + 1, key (vn d) 0 0 0 yr (by omega) (by decide) (fun k => by
    rw [Nat.zero_testBit]
    exact ⟨fun hx => (by cases hx), fun ⟨i, hi, _⟩ => absurd hi (by omega)⟩) (by omega) (mxO_congr (mxO_0 R) (fun k => ⟨fun hh => hh.elim, fun ⟨i, hi, _⟩ => absurd hi (by omega)⟩)) (fun k ⟨i, hi, _⟩ => absurd hi (by omega))⟩
end
