/-! the reference's calls that change a day -/
theorem DM.mov {d : DV} (hn : vn d ≤ 14) {y : Nat → Int32} (h : DM d y) {r : Nat} (hr : r < vn d) (b e : Nat) : DM (movD d r b e) (upd (upd y r (nI b)) (14 + r) (nI e)) := by
  obtain ⟨h1, h2, h3, h4⟩ := h
  refine ⟨fun k hk => ?_, ?_, ?_, ?_⟩
  · have hk : k < vn d := hk
    obtain ⟨a1, a2, a3⟩ := h1 k hk
    show _ = nI (upN (vB d) r b k) ∧ _ = nI (upN (vE d) r e k) ∧ _
    by_cases hkr : k = r
    · subst hkr
      rw [upN_s, upN_s, pk_us, pk_un (by omega), pk_us, pk_un (by omega), pk_un (by omega)]
      exact ⟨rfl, rfl, a3⟩
    · rw [upN_n hkr, upN_n hkr, pk_un (by omega), pk_un (by omega), pk_un (by omega), pk_un (by omega), pk_un (by omega), pk_un (by omega)]
      exact ⟨a1, a2, a3⟩
  · rw [pk_un (by omega), pk_un (by omega)]; exact h2
  · rw [pk_un (by omega), pk_un (by omega)]; exact h3
  · rw [pk_un (by omega), pk_un (by omega)]; exact h4
theorem DM.fam {d : DV} (hn : vn d ≤ 14) {y : Nat → Int32} (h : DM d y) {r : Nat} (hr : r < vn d) (f : Nat) : DM (famD d r f) (upd y (28 + r) (nI f)) := by
  obtain ⟨h1, h2, h3, h4⟩ := h
  refine ⟨fun k hk => ?_, ?_, ?_, ?_⟩
  · have hk : k < vn d := hk
    obtain ⟨a1, a2, a3⟩ := h1 k hk
    show _ ∧ _ ∧ _ = nI (upN (vF d) r f k)
    by_cases hkr : k = r
    · subst hkr
      rw [upN_s, pk_us, pk_un (by omega), pk_un (by omega)]
      exact ⟨a1, a2, rfl⟩
    · rw [upN_n hkr, pk_un (by omega), pk_un (by omega), pk_un (by omega)]
      exact ⟨a1, a2, a3⟩
  · rw [pk_un (by omega)]; exact h2
  · rw [pk_un (by omega)]; exact h3
  · rw [pk_un (by omega)]; exact h4
theorem DM.pau {d : DV} (hn : vn d ≤ 14) {y : Nat → Int32} (h : DM d y) (q : Nat) : DM (pauD d q) (upd y 43 (nI q)) := by
  obtain ⟨h1, h2, h3, h4⟩ := h
  refine ⟨fun k hk => ?_, ?_, pk_us, ?_⟩
  · have hk : k < vn d := hk
    rw [pk_un (by omega), pk_un (by omega), pk_un (by omega)]
    exact h1 k hk
  · rw [pk_un (by omega)]; exact h2
  · rw [pk_un (by omega)]; exact h4
theorem DM.boo {d : DV} (hn : vn d ≤ 14) {y : Nat → Int32} (h : DM d y) (S : Nat) : DM (booD d S) (upd y 42 (nI S)) := by
  obtain ⟨h1, h2, h3, h4⟩ := h
  refine ⟨fun k hk => ?_, pk_us, ?_, ?_⟩
  · have hk : k < vn d := hk
    rw [pk_un (by omega), pk_un (by omega), pk_un (by omega)]
    exact h1 k hk
  · rw [pk_un (by omega)]; exact h3
  · rw [pk_un (by omega)]; exact h4
def shM (y : Nat → Int32) (o r k j : Nat) : Int32 := if r ≤ j ∧ j < k then y (o + (j + 1)) else y (o + j)
theorem shM_no {y : Nat → Int32} {o r k j : Nat} (h : k ≤ j) : shM y o r k j = y (o + j) := by unfold shM; rw [if_neg (by omega)]
theorem shM_s {y : Nat → Int32} {o r k j : Nat} (h : j ≠ k) : shM y o r (k + 1) j = shM y o r k j := by
  unfold shM
  by_cases h1 : r ≤ j ∧ j < k
  · rw [if_pos h1, if_pos (by omega)]
  · rw [if_neg h1, if_neg (by omega)]
theorem shM_k {y : Nat → Int32} {o r k : Nat} (h : r ≤ k) : shM y o r (k + 1) k = y (o + (k + 1)) := by unfold shM; rw [if_pos (by omega)]
section
variable {S : List DV} {d : DV} {yn yb : Nat → Int32} {za zs : Int32}
theorem m_noOne (hn : vn d ≤ 14) (hm : DM d yn) {a1 : Int32} {Q : Int32 → Int32 → Prop} (h1 : isN (vn d) a1 → Q 0 0) (h0 : ¬ isN (vn d) a1 → Q 1 1) : wn_X6_noOne yn za a1 Q := by
  unfold wn_X6_noOne wj_n_X6_noOne_14
  refine m_isThere hn hm (fun h => ?_) (fun h => ?_)
  · exact ⟨fun hx => absurd hx (by decide), fun _ => m_refused0 (h1 h)⟩
  · exact ⟨fun _ => m_refusedN (by decide) (h0 h), fun hx => absurd rfl hx⟩
theorem M_add (ok : DOK d) (hS : MS S yb zs) (hm : DM d yn) {a1 a2 a3 : Int32} {Q : Int32 → (Nat → Int32) → (Nat → Int32) → Int32 → Int32 → Prop}
    (hq : isT a1 a2 → isF a3 → vn d < 14 → ∀ b e f : Nat, a1 = nI b → a2 = nI e → a3 = nI f → b < e → e ≤ 96 → f ≤ 50 → ∀ (yn' yb' : Nat → Int32) (zs' : Int32), DM (addD d b e f) yn' → MS (psh S d) yb' zs' → Q (nI (vn d)) yn' yb' 0 zs')
    (h1 : ¬ (isT a1 a2 ∧ isF a3) → Q 0 yn yb 1 zs) (h2 : isT a1 a2 → isF a3 → ¬ vn d < 14 → Q 0 yn yb 2 zs) : wn_X6_add yn yb za zs a1 a2 a3 Q := by
  have hn := ok.1
  have bad : ¬ (isT a1 a2 ∧ isF a3) → wj_n_X6_add_25 Q yn yb za zs a1 a2 a3 0 := by
    intro h
    unfold wj_n_X6_add_25 wj_n_X6_add_54
    exact ⟨fun hx => absurd rfl hx, fun _ => m_refusedN (by decide) ⟨fun hx => absurd hx (by decide), fun _ => h1 h⟩⟩
  unfold wn_X6_add wj_n_X6_add_24
  refine m_isTime (fun hT => ⟨fun hx => absurd hx (by decide), fun _ => m_fame (fun hF => ⟨fun hx => absurd hx (by decide), fun _ => ?_⟩) (fun hF => ⟨fun _ => bad (fun h => hF h.2), fun hx => absurd rfl hx⟩)⟩) (fun hT => ⟨fun _ => bad (fun h => hT h.1), fun hx => absurd rfl hx⟩)
  unfold wj_n_X6_add_25 wj_n_X6_add_54
  refine ⟨fun _ => ⟨zi44, ?_⟩, fun hx => absurd hx (by decide)⟩
  rw [z44, hm.2.2.2, z_14, z_eq (by omega) (by decide)]
  refine ⟨fun hx => m_refused0 ⟨fun _ => ?_, fun hx => absurd rfl hx⟩, fun hx => m_refusedN (by decide) ⟨fun hx => absurd hx (by decide), fun _ => h2 hT hF (by omega)⟩⟩
  obtain ⟨b, e, rfl, rfl, hbe, he⟩ := isT_of hT
  obtain ⟨f, rfl, hf1, hf2⟩ := isF_of hF
  exact m_save hn hS hm (fun yb' zs' hS' => m_goAdd (by omega) hm (fun y' hm' => hq hT hF (by omega) b e f rfl rfl rfl hbe he hf2 _ _ _ hm' hS'))
theorem M_strike (ok : DOK d) (hS : MS S yb zs) (hm : DM d yn) {a1 : Int32} {Q : Int32 → (Nat → Int32) → (Nat → Int32) → Int32 → Int32 → Prop}
    (hq : ∀ r : Nat, a1 = nI r → r < vn d → ∀ (yn' yb' : Nat → Int32) (zs' : Int32), DM (delD d r) yn' → MS (psh S d) yb' zs' → Q (nI (vF d r)) yn' yb' 0 zs')
    (h1 : ¬ isN (vn d) a1 → Q 0 yn yb 1 zs) : wn_X6_strike yn yb za zs a1 Q := by
  have hn := ok.1
  unfold wn_X6_strike
  refine m_noOne hn hm (fun hr0 => ⟨fun _ => ?_, fun hx => absurd rfl hx⟩) (fun hr0 => ⟨fun hx => absurd hx (by decide), fun _ => h1 hr0⟩)
  obtain ⟨r, hr, rfl⟩ := isN_of hr0 (by omega)
  refine m_save hn hS hm (fun yb' zs' hS' => ?_)
  obtain ⟨hc, h42, h43, h44⟩ := hm
  have h2r : (0:Nat) < 2 ^ r := Nat.two_pow_pos r
  rw [z28p, z_cl (by omega), z42, z44, h42, z_bit r (by omega), z_1, z_sub (by omega), z_and, nI_add, z_shr ok.K31 (by omega)]
  refine ⟨z_in (by omega) (by decide), zi42, fun v8 e8 => ⟨zi42, fun v10 e10 => ⟨zi42, zi44, zi44, ?_⟩⟩⟩
  subst e8 e10
  have h5 : vK d / 2 ^ (r + 1) * 2 ^ r < 2 ^ 32 := by
    have h6 : vK d / 2 ^ (r + 1) * 2 ^ r ≤ vK d := by
      have h7 : vK d / 2 ^ (r + 1) * 2 ^ (r + 1) ≤ vK d := Nat.div_mul_le_self _ _
      have h8 : (2:Nat) ^ r ≤ 2 ^ (r + 1) := Nat.pow_le_pow_right (by decide) (by omega)
      exact Nat.le_trans (Nat.mul_le_mul_left _ h8) h7
    have := ok.K
    omega
  rw [z_shl h5 (by omega), z_or, pk_un (by decide), h44, z_sub (by omega), (hc r hr).2.2]
  have key : ∀ (m k : Nat) (v w : Int32) (y : Nat → Int32), k + m = vn d - 1 → r ≤ k → (∀ j, j < 14 → y j = shM yn 0 r k j ∧ y (14 + j) = shM yn 14 r k j ∧ y (28 + j) = shM yn 28 r k j) → y 42 = nI (rmb (vK d) r) → y 43 = nI (vP d) → y 44 = nI (vn d - 1) → wl_n_X6_strike_78 Q (m + 1) y yb' 0 zs' (nI r) (nI (vF d r)) v w (nI k) := by
    intro m
    induction m with
    | zero =>
      intro k v w y hk hrk hy h42' h43' h44'
      rw [wl_n_X6_strike_78, z44, h44', z_le (by omega) (by omega)]
      refine ⟨zi44, fun _ => hq r rfl hr _ _ _ ⟨fun j hj => ?_, h42', h43', h44'⟩ hS', fun hc => absurd (by omega) hc⟩
      have hj : j < vn d - 1 := hj
      obtain ⟨b1, b2, b3⟩ := hy j (by omega)
      show _ = nI (dlN (vB d) r j) ∧ _ = nI (dlN (vE d) r j) ∧ _ = nI (dlN (vF d) r j)
      rw [b1, b2, b3]
      unfold shM dlN
      by_cases hjr : j < r
      · have hs : ¬ (r ≤ j ∧ j < k) := by omega
        rw [if_neg hs, if_neg hs, if_neg hs, if_pos hjr, if_pos hjr, if_pos hjr, Nat.zero_add]
        exact hc j (by omega)
      · have hs : r ≤ j ∧ j < k := by omega
        rw [if_pos hs, if_pos hs, if_pos hs, if_neg hjr, if_neg hjr, if_neg hjr, Nat.zero_add]
        exact hc (j + 1) (by omega)
    | succ m ih =>
      intro k v w y hk hrk hy h42' h43' h44'
      have hv : ∀ c, c < 45 → vp_in (nI c) 45 := fun c h => z_in h (by decide)
      rw [wl_n_X6_strike_78, z44, h44', z_le (by omega) (by omega), z14p, z28p, nI_1 k, nI_1 (14 + k), nI_1 (28 + k), z_cl (n := k) (by omega), z_cl (n := k + 1) (by omega), z_cl (n := 14 + k) (by omega), z_cl (n := 14 + k + 1) (by omega), z_cl (n := 28 + k) (by omega), z_cl (n := 28 + k + 1) (by omega)]
      refine ⟨zi44, fun hc => absurd hc (by omega), fun _ => ⟨hv _ (by omega), hv _ (by omega), hv _ (by omega), hv _ (by omega), hv _ (by omega), hv _ (by omega), ih (k + 1) _ _ _ (by omega) (by omega) (fun j hj => ?_) ?_ ?_ ?_⟩⟩
      · obtain ⟨b1, b2, b3⟩ := hy j hj
        obtain ⟨c1, c2, c3⟩ := hy (k + 1) (by omega)
        by_cases hjk : j = k
        · subst hjk
          rw [shM_k hrk, shM_k hrk, shM_k hrk]
          rw [shM_no (by omega)] at c1 c2 c3
          refine ⟨?_, ?_, ?_⟩
          · rw [pk_un (by omega), pk_un (by omega), pk_us]; exact c1
          · rw [pk_un (by omega), pk_us, pk_un (by omega)]; exact c2
          · rw [pk_us, pk_un (by omega), pk_un (by omega)]; exact c3
        · rw [shM_s hjk, shM_s hjk, shM_s hjk]
          refine ⟨?_, ?_, ?_⟩
          · rw [pk_un (by omega), pk_un (by omega), pk_un (by omega)]; exact b1
          · rw [pk_un (by omega), pk_un (by omega), pk_un (by omega)]; exact b2
          · rw [pk_un (by omega), pk_un (by omega), pk_un (by omega)]; exact b3
      · rw [pk_un (by omega), pk_un (by omega), pk_un (by omega)]; exact h42'
      · rw [pk_un (by omega), pk_un (by omega), pk_un (by omega)]; exact h43'
      · rw [pk_un (by omega), pk_un (by omega), pk_un (by omega)]; exact h44'
  refine ⟨vn d - 1 - r + 1, key _ r _ _ _ (by omega) (Nat.le_refl r) (fun j hj => ?_) ?_ ?_ ?_⟩
  · rw [pk_un (by omega), pk_un (by omega), pk_un (by omega), pk_un (by omega), pk_un (by omega), pk_un (by omega)]
    unfold shM
    rw [if_neg (by omega), if_neg (by omega), if_neg (by omega), Nat.zero_add]
    exact ⟨rfl, rfl, rfl⟩
  · rw [pk_un (by omega), pk_us]; rfl
  · rw [pk_un (by omega), pk_un (by omega)]; exact h43
  · rw [pk_us]
theorem M_move {yt : Nat → Int32} (ok : DOK d) (hS : MS S yb zs) (hm : DM d yn) {a1 a2 a3 : Int32} {Q : Int32 → (Nat → Int32) → (Nat → Int32) → (Nat → Int32) → Int32 → Int32 → Prop}
    (hq : isN (vn d) a1 → isT a2 a3 → ∀ r b e : Nat, a1 = nI r → r < vn d → a2 = nI b → a3 = nI e → b < e → e ≤ 96 → chO (vP d) (upN (vB d) r b) (upN (vE d) r e) (vn d) (vK d) → ∀ (yn' yt' yb' : Nat → Int32) (zs' : Int32), DM (movD d r b e) yn' → MS (psh S d) yb' zs' → Q (nI (e - b) - nI (vE d r - vB d r)) yn' yt' yb' 0 zs')
    (h1 : ¬ isN (vn d) a1 → ∀ yt', Q 0 yn yt' yb 1 zs)
    (h2 : isN (vn d) a1 → ¬ isT a2 a3 → ∀ yt', Q 0 yn yt' yb 2 zs)
    (h3 : isN (vn d) a1 → isT a2 a3 → ∀ r b e : Nat, a1 = nI r → r < vn d → a2 = nI b → a3 = nI e → b < e → e ≤ 96 → ¬ chO (vP d) (upN (vB d) r b) (upN (vE d) r e) (vn d) (vK d) → ∀ yt', Q 0 yn yt' yb 3 zs) : wn_X6_move yn yt yb za zs a1 a2 a3 Q := by
  have hn := ok.1
  have bad : ∀ (w : Int32) (yt' : Nat → Int32) (x4 x5 : Int32), ¬ w = 0 → Q 0 yn yt' yb w zs → wj_n_X6_move_93 Q yn yt' yb za zs a1 a2 a3 x4 x5 w := by
    intro w yt' x4 x5 hw h
    unfold wj_n_X6_move_93
    exact m_refusedN hw ⟨fun hx => absurd hx (by decide), fun _ => h⟩
  unfold wn_X6_move wj_n_X6_move_52
  refine m_isThere hn hm (fun hr0 => ?_) (fun hr0 => ?_)
  · refine m_isTime (fun hT => ?_) (fun hT => ?_)
    · refine m_copyDay hn hm (fun vv hvv => ⟨fun hx => absurd hx (by decide), fun _ => ⟨fun hx => absurd hx (by decide), fun _ => ?_⟩⟩)
      obtain ⟨r, hr, rfl⟩ := isN_of hr0 (by omega)
      obtain ⟨b, e, rfl, rfl, hbe, he⟩ := isT_of hT
      have hv1 : vp_in (nI r) 45 := z_in (by omega) (by decide)
      have hv2 : vp_in (nI (14 + r)) 45 := z_in (by omega) (by decide)
      rw [z14p, z_cl (by omega), z_cl (by omega)]
      have ht := hvv.mov hn hr b e
      have hw : DW (movD d r b e) := by
        refine ⟨hn, ok.2.1, fun k hk => ?_⟩
        obtain ⟨w1, w2⟩ := ok.w.2.2 k hk
        show upN (vB d) r b k < 1000 ∧ upN (vE d) r e k < 1000
        by_cases hkr : k = r
        · subst hkr; rw [upN_s, upN_s]; omega
        · rw [upN_n hkr, upN_n hkr]; exact ⟨w1, w2⟩
      have e42 : (upd (upd vv r (nI b)) (14 + r) (nI e)) 42 = nI (vK d) := ht.2.1
      refine ⟨hv1, hv2, fun _ => ⟨fun _ => ⟨zi42, ?_⟩, fun hx => absurd hx (by decide)⟩, fun hx => absurd hx (by decide)⟩
      rw [z42, e42]
      refine m_isChoice hw ht ok.K31 ?_
      have hci := chB_iff (movD d r b e) (vK d)
      cases hcb : chB (movD d r b e) (vK d)
      · refine ⟨fun hx => absurd rfl hx, fun _ => bad 3 _ _ _ (by decide) (h3 hr0 hT r b e rfl hr rfl rfl hbe he (fun hx => ?_) _)⟩
        rw [hci.mpr hx] at hcb; cases hcb
      · refine ⟨fun _ => ?_, fun hx => absurd hx (by decide)⟩
        unfold wj_n_X6_move_93
        refine m_refused0 ⟨fun _ => m_save hn hS hm (fun yb' zs' hS' => ?_), fun hx => absurd rfl hx⟩
        rw [z14p, z_cl (by omega), z_cl (by omega)]
        refine ⟨hv2, hv1, fun v hv => ⟨hv1, hv2, ?_⟩⟩
        subst hv
        obtain ⟨c1, c2, -⟩ := hm.1 r hr
        have := (ok.2.2.1 r hr).1
        rw [c1, c2, z_sub (by omega), z_sub (by omega)]
        exact hq hr0 hT r b e rfl hr rfl rfl hbe he (hci.mp hcb) _ _ _ _ (hm.mov hn hr b e) hS'
    · refine m_copyDay hn hm (fun vv hvv => ⟨fun hx => absurd hx (by decide), fun _ => ⟨fun _ => ?_, fun hx => absurd rfl hx⟩⟩)
      exact ⟨fun _ => ⟨fun hx => absurd rfl hx, fun _ => bad 2 _ _ _ (by decide) (h2 hr0 hT _)⟩, fun hx => absurd hx (by decide)⟩
  · have go : ∀ r2 : Int32, wn_X6_copy yn yt (fun (vv_3 : Nat → Int32) => (((0:Int32) = 0 → (wj_n_X6_move_52 Q yn vv_3 yb za zs a1 a2 a3 0 r2)) ∧ (¬ (0:Int32) = 0 → ((r2 = 0 → (wj_n_X6_move_52 Q yn vv_3 yb za zs a1 a2 a3 0 r2)) ∧ (¬ r2 = 0 → (vp_in a1 45 ∧ (vp_in ((14 : Int32) + a1) 45 ∧ (wj_n_X6_move_52 Q yn (upd (upd vv_3 a1.toNatClampNeg a2) ((14 : Int32) + a1).toNatClampNeg a3) yb za zs a1 a2 a3 0 r2)))))))) := by
      intro r2
      refine m_copyDay hn hm (fun vv hvv => ⟨fun _ => ?_, fun hx => absurd rfl hx⟩)
      unfold wj_n_X6_move_52
      exact ⟨fun hx => absurd rfl hx, fun _ => bad 1 _ _ _ (by decide) (h1 hr0 _)⟩
    exact m_isTime (fun _ => go 1) (fun _ => go 0)
theorem M_changeFame (ok : DOK d) (hS : MS S yb zs) (hm : DM d yn) {a1 a2 : Int32} {Q : Int32 → (Nat → Int32) → (Nat → Int32) → Int32 → Int32 → Prop}
    (hq : isN (vn d) a1 → isF a2 → ∀ r f : Nat, a1 = nI r → r < vn d → a2 = nI f → f ≤ 50 → ∀ (yn' yb' : Nat → Int32) (zs' : Int32), DM (famD d r f) yn' → MS (psh S d) yb' zs' → Q (nI (vF d r)) yn' yb' 0 zs')
    (h1 : ¬ isN (vn d) a1 → Q 0 yn yb 1 zs) (h2 : isN (vn d) a1 → ¬ isF a2 → Q 0 yn yb 2 zs) : wn_X6_changeFame yn yb za zs a1 a2 Q := by
  have hn := ok.1
  unfold wn_X6_changeFame wj_n_X6_changeFame_30
  refine m_isThere hn hm (fun hr0 => ⟨fun _ => m_fame (fun hF => ⟨fun _ => m_refused0 ⟨fun _ => ?_, fun hx => absurd rfl hx⟩, fun hx => absurd hx (by decide)⟩) (fun hF => ⟨fun hx => absurd rfl hx, fun _ => m_refusedN (by decide) ⟨fun hx => absurd hx (by decide), fun _ => h2 hr0 hF⟩⟩), fun hx => absurd hx (by decide)⟩) (fun hr0 => ⟨fun hx => absurd rfl hx, fun _ => m_refusedN (by decide) ⟨fun hx => absurd hx (by decide), fun _ => h1 hr0⟩⟩)
  obtain ⟨r, hr, rfl⟩ := isN_of hr0 (by omega)
  obtain ⟨f, rfl, hf1, hf2⟩ := isF_of hF
  have hv : vp_in (nI (28 + r)) 45 := z_in (by omega) (by decide)
  refine m_save hn hS hm (fun yb' zs' hS' => ?_)
  rw [z28p, z_cl (by omega), (hm.1 r hr).2.2]
  exact ⟨hv, hv, hq hr0 hF r f rfl hr rfl hf2 _ _ _ (hm.fam hn hr f) hS'⟩
theorem m_pauseIn {x : Int32} {Q : Int32 → Prop} (h1 : isP x → Q 1) (h0 : ¬ isP x → Q 0) : wn_X6_in x.toInt64 (0 : Int64) (8 : Int64) Q := by
  refine m_in ?_
  unfold isP at h1 h0
  rw [Int32.toInt_toInt64, l64_0, l64_8]
  by_cases hc : 0 ≤ x.toInt ∧ x.toInt ≤ 8
  · rw [if_pos hc]; exact h1 hc
  · rw [if_neg hc]; exact h0 hc
theorem M_changePause {yt : Nat → Int32} (ok : DOK d) (hS : MS S yb zs) (hm : DM d yn) {a1 : Int32} {Q : Int32 → (Nat → Int32) → (Nat → Int32) → (Nat → Int32) → Int32 → Int32 → Prop}
    (hq : isP a1 → ∀ q : Nat, a1 = nI q → q ≤ 8 → chO q (vB d) (vE d) (vn d) (vK d) → ∀ (yn' yt' yb' : Nat → Int32) (zs' : Int32), DM (pauD d q) yn' → MS (psh S d) yb' zs' → Q (nI (vP d)) yn' yt' yb' 0 zs')
    (h1 : ¬ isP a1 → ∀ yt', Q 0 yn yt' yb 1 zs)
    (h2 : isP a1 → ∀ q : Nat, a1 = nI q → q ≤ 8 → ¬ chO q (vB d) (vE d) (vn d) (vK d) → ∀ yt', Q 0 yn yt' yb 2 zs) : wn_X6_changePause yn yt yb za zs a1 Q := by
  have hn := ok.1
  have bad : ∀ (w : Int32) (yt' : Nat → Int32) (x2 : Int32), ¬ w = 0 → Q 0 yn yt' yb w zs → wj_n_X6_changePause_68 Q yn yt' yb za zs a1 x2 w := by
    intro w yt' x2 hw h
    unfold wj_n_X6_changePause_68
    exact m_refusedN hw ⟨fun hx => absurd hx (by decide), fun _ => h⟩
  unfold wn_X6_changePause wj_n_X6_changePause_36
  refine m_pauseIn (fun hP => ?_) (fun hP => ?_)
  · refine m_copyDay hn hm (fun vv hvv => ⟨fun hx => absurd hx (by decide), fun _ => ⟨zi43, fun _ => ⟨zi42, ?_⟩, fun hx => absurd hx (by decide)⟩⟩)
    obtain ⟨q, rfl, hq8⟩ := isP_of hP
    have ht := hvv.pau hn q
    have hw : DW (pauD d q) := ⟨hn, hq8, ok.w.2.2⟩
    have e42 : (upd vv 43 (nI q)) 42 = nI (vK d) := ht.2.1
    rw [z43, z42, e42]
    refine m_isChoice hw ht ok.K31 ?_
    have hci := chB_iff (pauD d q) (vK d)
    cases hcb : chB (pauD d q) (vK d)
    · refine ⟨fun hx => absurd rfl hx, fun _ => bad 2 _ _ (by decide) (h2 hP q rfl hq8 (fun hx => ?_) _)⟩
      rw [hci.mpr hx] at hcb; cases hcb
    · refine ⟨fun _ => ?_, fun hx => absurd hx (by decide)⟩
      unfold wj_n_X6_changePause_68
      refine m_refused0 ⟨fun _ => m_save hn hS hm (fun yb' zs' hS' => ⟨zi43, zi43, ?_⟩), fun hx => absurd rfl hx⟩
      rw [z43, hm.2.2.1]
      exact hq hP q rfl hq8 (hci.mp hcb) _ _ _ _ (hm.pau hn q) hS'
  · refine m_copyDay hn hm (fun vv hvv => ⟨fun _ => ⟨zi43, fun hx => absurd rfl hx, fun _ => bad 1 _ _ (by decide) (h1 hP _)⟩, fun hx => absurd rfl hx⟩)
theorem M_book (ok : DOK d) (hS : MS S yb zs) (hm : DM d yn) {a1 : Int32} {Q : Int32 → (Nat → Int32) → (Nat → Int32) → Int32 → Int32 → Prop}
    (hq : isN (vn d) a1 → ∀ r : Nat, a1 = nI r → r < vn d → (vK d).testBit r = false → mk (cl (vP d) (vB d) (vE d) r) (vn d) &&& vK d = 0 → ∀ (yn' yb' : Nat → Int32) (zs' : Int32), DM (booD d (vK d ||| 2 ^ r)) yn' → MS (psh S d) yb' zs' → Q (nI (su (vK d ||| 2 ^ r) (vF d) (vn d))) yn' yb' 0 zs')
    (h1 : ¬ isN (vn d) a1 → Q 0 yn yb 1 zs)
    (h2 : isN (vn d) a1 → ∀ r : Nat, a1 = nI r → r < vn d → ¬ ((vK d).testBit r = false ∧ mk (cl (vP d) (vB d) (vE d) r) (vn d) &&& vK d = 0) → Q 0 yn yb 2 zs) : wn_X6_book yn yb za zs a1 Q := by
  have hn := ok.1
  have bad : ∀ (w x2 x3 : Int32), ¬ w = 0 → Q 0 yn yb w zs → wj_n_X6_book_61 Q yn yb za zs a1 x2 x3 w := by
    intro w x2 x3 hw h
    unfold wj_n_X6_book_61
    exact m_refusedN hw ⟨fun hx => absurd hx (by decide), fun _ => h⟩
  unfold wn_X6_book wj_n_X6_book_41 wj_n_X6_book_42
  refine m_isThere hn hm (fun hr0 => ⟨fun hx => absurd hx (by decide), fun _ => ?_⟩) (fun hr0 => ⟨fun _ => ⟨fun hx => absurd rfl hx, fun _ => bad 1 _ _ (by decide) (h1 hr0)⟩, fun hx => absurd rfl hx⟩)
  obtain ⟨r, hr, rfl⟩ := isN_of hr0 (by omega)
  refine m_isIn hm ok.K31 (by omega) ?_
  cases hb : (vK d).testBit r
  · refine ⟨fun hx => absurd rfl hx, fun _ => m_foesOf ok.w hm hr ⟨zi42, ?_⟩⟩
    have hlt : mk (cl (vP d) (vB d) (vE d) r) (vn d) &&& vK d < 2 ^ 31 := Nat.lt_of_le_of_lt Nat.and_le_right ok.K31
    have e1 : (nI (mk (cl (vP d) (vB d) (vE d) r) (vn d)) &&& yn (42 : Int32).toNatClampNeg = 0) = (mk (cl (vP d) (vB d) (vE d) r) (vn d) &&& vK d = 0) := by
      rw [z42, hm.2.1, z_and, z_0, z_eq hlt (by decide)]
    rw [e1]
    refine ⟨fun hx => ⟨fun _ => ⟨fun hy => absurd rfl hy, fun _ => bad 2 _ _ (by decide) (h2 hr0 r rfl hr (fun h => hx h.2))⟩, fun hy => absurd hy (by decide)⟩, fun hx => ⟨fun _ => ⟨fun _ => ?_, fun hy => absurd hy (by decide)⟩, fun hy => absurd hy (by decide)⟩⟩
    unfold wj_n_X6_book_61
    refine m_refused0 ⟨fun _ => m_save hn hS hm (fun yb' zs' hS' => ⟨zi42, zi42, ?_⟩), fun hy => absurd rfl hy⟩
    have hlt2 : vK d ||| 2 ^ r < 2 ^ 14 := put_lt ok.K (by omega)
    rw [z42, hm.2.1, z_bit r (by omega), z_or]
    exact m_fameOfBooked (d := booD d (vK d ||| 2 ^ r)) ok.w (hm.boo hn _) (Nat.lt_trans hlt2 (by decide)) (hq hr0 r rfl hr hb hx _ _ _ (hm.boo hn _) hS')
  · exact ⟨fun _ => ⟨fun _ => ⟨fun hx => absurd rfl hx, fun _ => bad 2 _ _ (by decide) (h2 hr0 r rfl hr (fun hx => by rw [hb] at hx; cases hx.1))⟩, fun hx => absurd hx (by decide)⟩, fun hx => absurd hx (by decide)⟩
theorem M_cancel (ok : DOK d) (hS : MS S yb zs) (hm : DM d yn) {a1 : Int32} {Q : Int32 → (Nat → Int32) → (Nat → Int32) → Int32 → Int32 → Prop}
    (hq : isN (vn d) a1 → ∀ r : Nat, a1 = nI r → r < vn d → (vK d).testBit r = true → ∀ (yn' yb' : Nat → Int32) (zs' : Int32), DM (booD d (clr (vK d) r)) yn' → MS (psh S d) yb' zs' → Q (nI (su (clr (vK d) r) (vF d) (vn d))) yn' yb' 0 zs')
    (h1 : ¬ isN (vn d) a1 → Q 0 yn yb 1 zs)
    (h2 : isN (vn d) a1 → ∀ r : Nat, a1 = nI r → r < vn d → (vK d).testBit r = false → Q 0 yn yb 2 zs) : wn_X6_cancel yn yb za zs a1 Q := by
  have hn := ok.1
  have bad : ∀ (w x2 : Int32), ¬ w = 0 → Q 0 yn yb w zs → wj_n_X6_cancel_28 Q yn yb za zs a1 x2 w := by
    intro w x2 hw h
    unfold wj_n_X6_cancel_28
    exact m_refusedN hw ⟨fun hx => absurd hx (by decide), fun _ => h⟩
  unfold wn_X6_cancel
  refine m_isThere hn hm (fun hr0 => ⟨fun _ => ?_, fun hx => absurd hx (by decide)⟩) (fun hr0 => ⟨fun hx => absurd rfl hx, fun _ => bad 1 _ (by decide) (h1 hr0)⟩)
  obtain ⟨r, hr, rfl⟩ := isN_of hr0 (by omega)
  refine m_isIn hm ok.K31 (by omega) ?_
  cases hb : (vK d).testBit r
  · exact ⟨fun hx => absurd rfl hx, fun _ => bad 2 _ (by decide) (h2 hr0 r rfl hr hb)⟩
  · refine ⟨fun _ => ?_, fun hx => absurd hx (by decide)⟩
    unfold wj_n_X6_cancel_28
    refine m_refused0 ⟨fun _ => m_save hn hS hm (fun yb' zs' hS' => ⟨zi42, zi42, ?_⟩), fun hy => absurd rfl hy⟩
    have hle : 2 ^ r ≤ vK d := by
      rcases Nat.lt_or_ge (vK d) (2 ^ r) with h | h
      · rw [Nat.testBit_lt_two_pow h] at hb; cases hb
      · exact h
    have hlt := Nat.lt_of_le_of_lt (clr_le (vK d) r) ok.K31
    rw [z42, hm.2.1, z_bit r (by omega), z_sub hle, clr_sub (by omega) ok.K31 hb]
    exact m_fameOfBooked (d := booD d (clr (vK d) r)) ok.w (hm.boo hn _) hlt (hq hr0 r rfl hr hb _ _ _ (hm.boo hn _) hS')
end
