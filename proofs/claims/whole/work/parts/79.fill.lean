/-! the reference's table of all sets -/
theorem su_low {K r : Nat} (F : Nat → Nat) : ∀ n, n ≤ r → su (K ||| 2 ^ r) F n = su K F n
  | 0, _ => rfl
  | n + 1, h => by
    unfold su
    rw [su_low F n (by omega), Nat.testBit_or, Nat.testBit_two_pow, decide_eq_false (by omega : ¬ r = n), Bool.or_false]
theorem su_put {K r : Nat} (F : Nat → Nat) (hb : K.testBit r = false) : ∀ n, r < n → su (K ||| 2 ^ r) F n = su K F n + F r
  | 0, h => absurd h (by omega)
  | n + 1, h => by
    unfold su
    rw [Nat.testBit_or, Nat.testBit_two_pow]
    by_cases hrn : r = n
    · subst hrn
      rw [su_low F r (Nat.le_refl r), hb]
      simp
    · rw [su_put F hb n (by omega), decide_eq_false hrn, Bool.or_false]
      split <;> omega
theorem chB_put {d : DV} {K r : Nat} (hr : r < vn d) : chB d (K ||| 2 ^ r) = (chB d K && decide (mk (cl (vP d) (vB d) (vE d) r) (vn d) &&& K = 0)) := by
  rw [Bool.eq_iff_iff, Bool.and_eq_true, decide_eq_true_eq, chB_iff, chB_iff]
  constructor
  · intro h
    refine ⟨chO_sub h (fun j hj => by rw [Nat.testBit_or, hj]; rfl), ?_⟩
    rw [mk_and]
    intro j hj hc
    cases hb : K.testBit j
    · rfl
    · have h1 := h r j hr hj (by rw [Nat.testBit_or, Nat.testBit_two_pow]; simp) (by rw [Nat.testBit_or, hb]; rfl)
      rw [h1] at hc; cases hc
  · intro h
    exact chO_put h.1 hr h.2
theorem chB_0 (d : DV) : chB d 0 = true := by
  rw [chB_iff]
  intro i j _ _ h
  rw [Nat.zero_testBit] at h; cases h
theorem chB_one {d : DV} {r : Nat} (hr : r < vn d) : chB d (2 ^ r) = true := by
  have h := chB_put (d := d) (K := 0) hr
  rw [Nat.zero_or, chB_0, Nat.and_zero] at h
  rw [h]; simp
theorem nI_neg1 {x : Nat} (hx : x < 2 ^ 31) : ¬ nI x = (-1 : Int32) := by
  intro h
  have h1 := congrArg Int32.toInt h
  rw [nI_toInt hx] at h1
  have h2 : (-1 : Int32).toInt = -1 := by decide
  rw [h2] at h1
  omega
/-- the table's first M sets -/
def FT (d : DV) (yu : Nat → Int32) (M : Nat) : Prop := ∀ S, S < M → yu S = (if chB d S = true then nI (su S (vF d) (vn d)) else (-1 : Int32))
theorem FT.put {d : DV} {yu : Nat → Int32} {M : Nat} (h : FT d yu M) {v : Int32} (hv : v = (if chB d M = true then nI (su M (vF d) (vn d)) else (-1 : Int32))) : FT d (upd yu M v) (M + 1) := by
  intro S hS
  by_cases hSM : S = M
  · subst hSM; rw [pk_us]; exact hv
  · rw [pk_un hSM]; exact h S (by omega)
theorem suF_le {d : DV} (ok : DOK d) (S : Nat) : su S (vF d) (vn d) ≤ 700 := by
  have h := su_le S (vF d) 50 (vn d) (fun k hk => (ok.2.2.1 k hk).2.2.2)
  have := ok.1
  omega
theorem m_fill {d : DV} (ok : DOK d) {yn yu yf : Nat → Int32} (hm : DM d yn) {Q : Int32 → (Nat → Int32) → (Nat → Int32) → Prop} (h : ∀ yu' yf' : Nat → Int32, FT d yu' (2 ^ vn d) → Q (nI (2 ^ vn d)) yu' yf') : wn_X6_fill yn yu yf Q := by
  have hn := ok.1
  have hM : (2:Nat) ^ vn d ≤ 2 ^ 14 := Nat.pow_le_pow_right (by decide) hn
  have main : ∀ (m s hi : Nat) (yu yf : Nat → Int32), s + m = 2 ^ vn d → 1 ≤ s → 2 ^ hi ≤ s → s ≤ 2 ^ (hi + 1) → FT d yu s → (∀ k, k < vn d → yf k = nI (mk (cl (vP d) (vB d) (vE d) k) (vn d))) → wl_n_X6_fill_54 yn Q (m + 1) yu yf (nI (2 ^ vn d)) (nI hi) (nI s) := by
    intro m
    induction m with
    | zero =>
      intro s hi yu yf hs h1 h2 h3 hT hF
      rw [wl_n_X6_fill_54, z_le (by omega) (by omega)]
      refine ⟨fun _ => h yu yf ?_, fun hc => absurd (by omega) hc⟩
      rw [show 2 ^ vn d = s by omega]
      exact hT
    | succ m ih =>
      intro s hi yu yf hs h1 h2 h3 hT hF
      have hsn : s < 2 ^ vn d := by omega
      have hlt : hi < vn d := by
        rcases Nat.lt_or_ge hi (vn d) with h | h
        · exact h
        · have := Nat.pow_le_pow_right (show 0 < 2 by decide) h; omega
      have body : ∀ hj : Nat, 2 ^ hj ≤ s → s < 2 ^ (hj + 1) → ∀ y0 y1 : Int32, y0 + y1 = nI hj → wj_n_X6_fill_73 yn Q (fun z0 z1 z2 z3 z4 => wl_n_X6_fill_54 yn Q (m + 1) z0 z1 z2 z3 z4) yu yf (nI (2 ^ vn d)) (nI hi) (nI s) y0 y1 := by
        intro hj g1 g2 y0 y1 hy
        have gj : hj < vn d := by
          rcases Nat.lt_or_ge hj (vn d) with h | h
          · exact h
          · have := Nat.pow_le_pow_right (show 0 < 2 by decide) h; omega
        have g3 : (2:Nat) ^ (hj + 1) = 2 ^ hj + 2 ^ hj := by rw [Nat.pow_succ]; omega
        obtain ⟨K, hK⟩ : ∃ K, K = s - 2 ^ hj := ⟨_, rfl⟩
        have hK2 : K < 2 ^ hj := by omega
        have hKb : K.testBit hj = false := Nat.testBit_lt_two_pow hK2
        have hsK : s = K ||| 2 ^ hj := by
          have h5 := Nat.two_pow_add_eq_or_of_lt hK2 1
          rw [Nat.mul_one, Nat.or_comm] at h5
          rw [← h5]; omega
        have c1 := chB_put (d := d) (K := K) gj
        rw [← hsK] at c1
        have c2 := su_put (vF d) hKb (vn d) gj
        rw [← hsK] at c2
        have hTK := hT K (by omega)
        have hsu := suF_le ok K
        have hin : vp_in (nI K) 16384 := z_in (by omega) (by decide)
        have hins : vp_in (nI s) 16384 := z_in (by omega) (by decide)
        have next : ∀ v : Int32, v = (if chB d s = true then nI (su s (vF d) (vn d)) else (-1 : Int32)) → wl_n_X6_fill_54 yn Q (m + 1) (upd yu s v) yf (nI (2 ^ vn d)) (nI hj) (nI s + 1) := by
          intro v hv
          rw [nI_1]
          exact ih (s + 1) hj _ yf (by omega) (by omega) (by omega) (by omega) (hT.put hv) hF
        unfold wj_n_X6_fill_73 wj_n_X6_fill_110 wj_n_X6_fill_131
        rw [hy, z_bit hj (by omega), z_sub g1, ← hK, z_cl (n := K) (by omega), z_cl (n := s) (by omega), z_cl (n := hj) (by omega), z28p, z_cl (n := 28 + hj) (by omega), hF hj gj, (hm.1 hj gj).2.2, z_and]
        have hand : mk (cl (vP d) (vB d) (vE d) hj) (vn d) &&& K < 2 ^ 31 := Nat.lt_of_le_of_lt Nat.and_le_right (by omega)
        have e0 : (nI (mk (cl (vP d) (vB d) (vE d) hj) (vn d) &&& K) = 0) = (mk (cl (vP d) (vB d) (vE d) hj) (vn d) &&& K = 0) := by rw [z_0, z_eq hand (by decide)]
        rw [e0]
        refine ⟨hin, fun hx => ⟨hins, next _ ?_⟩, fun hx => ⟨z_in (by omega) (by decide), fun h0 => ⟨hin, z_in (by omega) (by decide), hins, next _ ?_⟩, fun h0 => ⟨hins, next _ ?_⟩⟩⟩
        · rw [hTK] at hx
          cases hcK : chB d K
          · rw [c1, hcK]; rfl
          · rw [if_pos hcK] at hx; exact absurd hx (nI_neg1 (by omega))
        · rw [hTK] at hx ⊢
          cases hcK : chB d K
          · rw [hcK] at hx; exact absurd rfl hx
          · rw [c1, hcK, decide_eq_true h0, c2, if_pos rfl, if_pos (by rfl), nI_add]
        · rw [c1, decide_eq_false h0, Bool.and_false]; rfl
      have hpos : 0 < 2 ^ (hi + 1) := Nat.two_pow_pos _
      rw [wl_n_X6_fill_54, z_le (by omega) (by omega), nI_1 hi, z_shr (by omega) (by omega), z_0, z_le (Nat.lt_of_le_of_lt (Nat.div_le_self _ _) (by omega)) (by decide)]
      refine ⟨fun hc => absurd hc (by omega), fun _ => ⟨fun hz => body hi h2 ?_ _ _ (by rw [nI_add, Nat.add_zero]), fun hz => body (hi + 1) ?_ ?_ _ _ (by rw [z_1, nI_add])⟩⟩
      · have h0 : s / 2 ^ (hi + 1) = 0 := Nat.eq_zero_of_le_zero hz
        exact (Nat.div_eq_zero_iff.mp h0).resolve_left (by omega)
      · have h0 : ¬ s / 2 ^ (hi + 1) = 0 := fun h => hz (Nat.le_of_eq h)
        rcases Nat.lt_or_ge s (2 ^ (hi + 1)) with hlt | hge
        · exact absurd (Nat.div_eq_of_lt hlt) h0
        · exact hge
      · have h5 : (2:Nat) ^ (hi + 1 + 1) = 2 ^ (hi + 1) + 2 ^ (hi + 1) := by rw [Nat.pow_succ]; omega
        omega
  have foes : ∀ (m k : Nat) (yf : Nat → Int32), k + m = vn d → (∀ j, j < k → yf j = nI (mk (cl (vP d) (vB d) (vE d) j) (vn d))) → wl_n_X6_fill_12 yn Q (m + 1) yu yf (nI (2 ^ vn d)) (nI k) := by
    intro m
    induction m with
    | zero =>
      intro k yf hk hF
      rw [wl_n_X6_fill_12, z44, hm.2.2.2, z_le (by omega) (by omega)]
      have hp : 0 < 2 ^ vn d := Nat.two_pow_pos _
      refine ⟨zi44, fun _ => ⟨z_in (n := 0) (by decide) (by decide), ⟨2 ^ vn d - 1 + 1, ?_⟩⟩, fun hc => absurd (by omega) hc⟩
      refine main (2 ^ vn d - 1) 1 0 _ yf (by omega) (by omega) (by decide) (by decide) (fun S hS => ?_) (fun j hj => hF j (by omega))
      have h0 : S = 0 := by omega
      subst h0
      rw [chB_0, if_pos rfl]
      have hz : su 0 (vF d) (vn d) = 0 := by
        have : ∀ n, su 0 (vF d) n = 0 := by
          intro n
          induction n with
          | zero => rfl
          | succ n ih => unfold su; rw [Nat.zero_testBit, ih]; rfl
        exact this _
      rw [hz]
      exact pk_us
    | succ m ih =>
      intro k yf hk hF
      rw [wl_n_X6_fill_12, z44, hm.2.2.2, z_le (by omega) (by omega)]
      refine ⟨zi44, fun hc => absurd hc (by omega), fun _ => m_foesOf ok.w hm (by omega) ⟨z_in (by omega) (by decide), ?_⟩⟩
      rw [z_cl (by omega), nI_1]
      refine ih (k + 1) _ (by omega) (fun j hj => ?_)
      by_cases hjk : j = k
      · subst hjk; exact pk_us
      · rw [pk_un hjk]; exact hF j (by omega)
  unfold wn_X6_fill
  rw [z44, hm.2.2.2, z_bit (vn d) (by omega)]
  exact ⟨zi44, vn d + 1, foes (vn d) 0 yf (by omega) (fun j hj => absurd hj (by omega))⟩
/-! the best set with some in it, as the table stands -/
def gdS (d : DV) (w S : Nat) : Prop := chB d S = true ∧ S &&& w = w
/-- b is the best of the first M sets: the greatest fame, and of like ones the least -/
def bestOf (d : DV) (w M b : Nat) : Prop := b < M ∧ gdS d w b ∧ ∀ S, S < M → gdS d w S → su S (vF d) (vn d) ≤ su b (vF d) (vn d) ∧ (su S (vF d) (vn d) = su b (vF d) (vn d) → b ≤ S)
theorem m_bestSet {d : DV} (ok : DOK d) {yu : Nat → Int32} (hT : FT d yu (2 ^ vn d)) {w : Nat} (hw : w < 2 ^ 31) (hex : ∃ S, S < 2 ^ vn d ∧ gdS d w S) {Q : Int32 → Prop} (h : ∀ b, bestOf d w (2 ^ vn d) b → Q (nI b)) : wn_X6_bestSet yu (nI (2 ^ vn d)) (nI w) Q := by
  have hn := ok.1
  have hM : (2:Nat) ^ vn d ≤ 2 ^ 14 := Nat.pow_le_pow_right (by decide) hn
  have main : ∀ (m s : Nat) (x : Int32), s + m = 2 ^ vn d → ((x = -1 ∧ ∀ S, S < s → ¬ gdS d w S) ∨ (∃ b, x = nI b ∧ bestOf d w s b)) → wl_n_X6_bestSet_5 yu Q (m + 1) (nI (2 ^ vn d)) (nI w) x (nI s) := by
    intro m
    induction m with
    | zero =>
      intro s x hs hx
      rw [wl_n_X6_bestSet_5, z_le (by omega) (by omega)]
      refine ⟨fun _ => ?_, fun hc => absurd (by omega) hc⟩
      rw [show s = 2 ^ vn d by omega] at hx
      rcases hx with ⟨-, hx⟩ | ⟨b, rfl, hb⟩
      · obtain ⟨S, h1, h2⟩ := hex
        exact absurd h2 (hx S h1)
      · exact h b hb
    | succ m ih =>
      intro s x hs hx
      have hTs := hT s (by omega)
      have hsu := suF_le ok s
      have hins : vp_in (nI s) 16384 := z_in (by omega) (by decide)
      have hand : s &&& w < 2 ^ 31 := Nat.lt_of_le_of_lt Nat.and_le_left (by omega)
      have e0 : (nI s &&& nI w = nI w) = (s &&& w = w) := by rw [z_and, z_eq hand hw]
      have keep : ¬ gdS d w s → wl_n_X6_bestSet_5 yu Q (m + 1) (nI (2 ^ vn d)) (nI w) x (nI s + 1) := by
        intro hg
        rw [nI_1]
        refine ih (s + 1) x (by omega) ?_
        rcases hx with ⟨h1, h2⟩ | ⟨b, h1, h2, h3, h4⟩
        · refine Or.inl ⟨h1, fun S hS hgS => ?_⟩
          by_cases hSs : S = s
          · subst hSs; exact hg hgS
          · exact h2 S (by omega) hgS
        · refine Or.inr ⟨b, h1, by omega, h3, fun S hS hgS => ?_⟩
          by_cases hSs : S = s
          · subst hSs; exact absurd hgS hg
          · exact h4 S (by omega) hgS
      rw [wl_n_X6_bestSet_5, z_le (by omega) (by omega), z_cl (n := s) (by omega), e0, hTs]
      unfold wj_n_X6_bestSet_34 wj_n_X6_bestSet_35 wj_n_X6_bestSet_63
      refine ⟨fun hc => absurd hc (by omega), fun _ => ⟨hins, fun hm => ⟨fun _ => keep (fun hg => ?_), fun hc => absurd rfl hc⟩, fun hm => ⟨fun hc => ⟨fun _ => keep (fun hg => hc hg.2), fun hc => absurd rfl hc⟩, fun hc => ⟨fun hx => absurd hx (by decide), fun _ => ?_⟩⟩⟩⟩
      · rw [if_pos hg.1] at hm
        exact nI_neg1 (by omega) hm
      · have hch : chB d s = true := by
          cases hq : chB d s
          · rw [hq] at hm; exact absurd rfl hm
          · rfl
        have hg : gdS d w s := ⟨hch, hc⟩
        rw [if_pos hch] at hTs
        rcases hx with ⟨rfl, h2⟩ | ⟨b, rfl, h2, h3, h4⟩
        · refine ⟨fun _ => ?_, fun hx => absurd rfl hx⟩
          rw [nI_1]
          refine ih (s + 1) _ (by omega) (Or.inr ⟨s, rfl, by omega, hg, fun S hS hgS => ?_⟩)
          by_cases hSs : S = s
          · subst hSs; exact ⟨Nat.le_refl _, fun _ => Nat.le_refl _⟩
          · exact absurd hgS (h2 S (by omega))
        · have hTb := hT b (by omega)
          have hsub := suF_le ok b
          rw [if_pos h3.1] at hTb
          have hinb : vp_in (nI b) 16384 := z_in (by omega) (by decide)
          refine ⟨fun hx => absurd hx (nI_neg1 (by omega)), fun _ => ⟨hins, hinb, ?_⟩⟩
          rw [z_cl (n := b) (by omega), z_cl (n := s) (by omega), hTb, hTs, z_le (by omega) (by omega), nI_1]
          refine ⟨fun hle => ih (s + 1) _ (by omega) (Or.inr ⟨b, rfl, by omega, h3, fun S hS hgS => ?_⟩), fun hle => ih (s + 1) _ (by omega) (Or.inr ⟨s, rfl, by omega, hg, fun S hS hgS => ?_⟩)⟩
          · by_cases hSs : S = s
            · subst hSs; exact ⟨hle, fun _ => by omega⟩
            · exact h4 S (by omega) hgS
          · by_cases hSs : S = s
            · subst hSs; exact ⟨Nat.le_refl _, fun _ => Nat.le_refl _⟩
            · have h5 := h4 S (by omega) hgS
              exact ⟨by omega, fun he => by omega⟩
  exact ⟨2 ^ vn d + 1, main (2 ^ vn d) 0 (-1) (by omega) (Or.inl ⟨rfl, fun S hS => absurd hS (by omega)⟩)⟩
/-- the most rehearsals of a choice -/
def mostOf (d : DV) (M x : Nat) : Prop := (∀ S, S < M → chB d S = true → pcn S 14 ≤ x) ∧ (x = 0 ∨ ∃ S, S < M ∧ chB d S = true ∧ pcn S 14 = x)
theorem pcn_le (s : Nat) : ∀ n, pcn s n ≤ n
  | 0 => Nat.le_refl 0
  | n + 1 => by
    have h := pcn_le s n
    have h2 : s / 2 ^ n % 2 < 2 := Nat.mod_lt _ (by decide)
    unfold pcn
    omega
theorem m_most {d : DV} (ok : DOK d) {yn yu yf : Nat → Int32} (hm : DM d yn) {Q : Int32 → (Nat → Int32) → (Nat → Int32) → Prop} (h : ∀ (x : Nat) (yu' yf' : Nat → Int32), mostOf d (2 ^ vn d) x → Q (nI x) yu' yf') : wn_X6_most yn yu yf Q := by
  have hn := ok.1
  have hM : (2:Nat) ^ vn d ≤ 2 ^ 14 := Nat.pow_le_pow_right (by decide) hn
  unfold wn_X6_most
  refine m_fill ok hm (fun yu' yf' hT => ⟨2 ^ vn d + 1, ?_⟩)
  have main : ∀ (m s x : Nat), s + m = 2 ^ vn d → x ≤ 14 → mostOf d s x → wl_n_X6_most_9 yn Q (m + 1) yu' yf' (nI (2 ^ vn d)) (nI x) (nI s) := by
    intro m
    induction m with
    | zero =>
      intro s x hs hx h1
      rw [wl_n_X6_most_9, z_le (by omega) (by omega)]
      refine ⟨fun _ => h x _ _ ?_, fun hc => absurd (by omega) hc⟩
      rw [show 2 ^ vn d = s by omega]
      exact h1
    | succ m ih =>
      intro s x hs hx h1
      have hTs := hT s (by omega)
      have hsu := suF_le ok s
      have hps := pcn_le s 14
      rw [wl_n_X6_most_9, z_le (by omega) (by omega), z_cl (n := s) (by omega), hTs]
      unfold wj_n_X6_most_32
      refine ⟨fun hc => absurd hc (by omega), fun _ => ⟨z_in (by omega) (by decide), fun hne => m_bits (by omega) ?_, fun he => ?_⟩⟩
      · have hch : chB d s = true := by
          cases hq : chB d s
          · rw [hq] at hne; exact absurd rfl hne
          · rfl
        rw [z_le (by omega) (by omega), nI_1]
        refine ⟨fun hle => ih (s + 1) x (by omega) hx ⟨fun S hS hc => ?_, ?_⟩, fun hle => ih (s + 1) _ (by omega) hps ⟨fun S hS hc => ?_, Or.inr ⟨s, by omega, hch, rfl⟩⟩⟩
        · by_cases hSs : S = s
          · subst hSs; exact hle
          · exact h1.1 S (by omega) hc
        · rcases h1.2 with h2 | ⟨S, h2, h3, h4⟩
          · exact Or.inl h2
          · exact Or.inr ⟨S, by omega, h3, h4⟩
        · by_cases hSs : S = s
          · subst hSs; exact Nat.le_refl _
          · have := h1.1 S (by omega) hc; omega
      · have hch : chB d s = false := by
          cases hq : chB d s
          · rfl
          · rw [if_pos hq] at he; exact absurd he (nI_neg1 (by omega))
        have e0 : (0 : Int32) = nI 0 := rfl
        rw [e0, z_le (by omega) (by omega), nI_1]
        refine ⟨fun hle => ih (s + 1) x (by omega) hx ⟨fun S hS hc => ?_, ?_⟩, fun hle => absurd (by omega) hle⟩
        · by_cases hSs : S = s
          · subst hSs; rw [hch] at hc; cases hc
          · exact h1.1 S (by omega) hc
        · rcases h1.2 with h2 | ⟨S, h2, h3, h4⟩
          · exact Or.inl h2
          · exact Or.inr ⟨S, by omega, h3, h4⟩
  exact main (2 ^ vn d) 0 0 (by omega) (by omega) ⟨fun S hS => absurd hS (by omega), Or.inl rfl⟩
