/-! digest: both sides' hash out of the same numbers -/
def mixH (h v : Int64) : Int64 := (31 : Int64) * h + v
theorem s_mix {h v : Int64} {Q : Int64 → Prop} (k : Q (mixH h v)) : wn_X5_mix h v Q := k
theorem bestOf_exw {d : DV} {w : Nat} : ∀ M, (∃ S, S < M ∧ gdS d w S) → ∃ b, bestOf d w M b
  | 0, h => by
    obtain ⟨S, h1, -⟩ := h
    omega
  | M + 1, h => by
    by_cases hex : ∃ S, S < M ∧ gdS d w S
    · obtain ⟨b, b1, b2, b3⟩ := bestOf_exw M hex
      by_cases hc : gdS d w M ∧ su b (vF d) (vn d) < su M (vF d) (vn d)
      · refine ⟨M, by omega, hc.1, fun S hS hg => ?_⟩
        by_cases hSM : S = M
        · subst hSM; exact ⟨Nat.le_refl _, fun _ => Nat.le_refl _⟩
        · have := b3 S (by omega) hg
          exact ⟨by omega, fun _ => by omega⟩
      · refine ⟨b, by omega, b2, fun S hS hg => ?_⟩
        by_cases hSM : S = M
        · subst hSM
          have h1 : ¬ su b (vF d) (vn d) < su S (vF d) (vn d) := fun h => hc ⟨hg, h⟩
          exact ⟨by omega, fun _ => by omega⟩
        · exact b3 S (by omega) hg
    · obtain ⟨S, h1, h2⟩ := h
      have hSM : S = M := by
        rcases Nat.lt_or_ge S M with h3 | h3
        · exact absurd ⟨S, h3, h2⟩ hex
        · omega
      subst hSM
      refine ⟨S, by omega, h2, fun T hT hg => ?_⟩
      by_cases hTS : T = S
      · subst hTS; exact ⟨Nat.le_refl _, fun _ => Nat.le_refl _⟩
      · exact absurd ⟨T, by omega, hg⟩ hex
theorem mostOf_ex (d : DV) : ∀ M, ∃ x, mostOf d M x
  | 0 => ⟨0, fun S hS => absurd hS (by omega), Or.inl rfl⟩
  | M + 1 => by
    obtain ⟨x, h1, h2⟩ := mostOf_ex d M
    by_cases hc : chB d M = true ∧ x < pcn M 14
    · refine ⟨pcn M 14, fun S hS hg => ?_, Or.inr ⟨M, by omega, hc.1, rfl⟩⟩
      by_cases hSM : S = M
      · subst hSM; exact Nat.le_refl _
      · have := h1 S (by omega) hg; omega
    · refine ⟨x, fun S hS hg => ?_, ?_⟩
      · by_cases hSM : S = M
        · subst hSM
          exact Nat.le_of_not_lt (fun h => hc ⟨hg, h⟩)
        · exact h1 S (by omega) hg
      · rcases h2 with h2 | ⟨S, g1, g2, g3⟩
        · exact Or.inl h2
        · exact Or.inr ⟨S, by omega, g2, g3⟩
theorem mxO_ex (R : Nat → Nat) : ∀ n, ∃ x, mxO (fun k => k < n) R x
  | 0 => ⟨0, fun k hk => absurd hk (by omega), Or.inl rfl⟩
  | n + 1 => by
    obtain ⟨x, hx⟩ := mxO_ex R n
    exact ⟨_, mxO_step hx (fun i => by show i < n + 1 ↔ i < n ∨ i = n; omega)⟩
/-- all that the hash is of, told apart from both sides' rows -/
def dgO (d : DV) (L : List Nat) (R W : Nat → Nat) (b x mo : Nat) : Prop := ordB d L ∧ gvn d L R (vn d) ∧ (∀ r, r < vn d → bestOf d (2 ^ r) (2 ^ vn d) (W r)) ∧ bestOf d 0 (2 ^ vn d) b ∧ mxO (fun k => k < vn d) R x ∧ mostOf d (2 ^ vn d) mo
theorem dgO_ex (d : DV) : ∃ (L : List Nat) (R W : Nat → Nat) (b x mo : Nat), dgO d L R W b x mo := by
  obtain ⟨L, hl1, hl2⟩ := ord_ex (vB d) (vn d)
  have hL : ordB d L := ⟨hl1, hl2⟩
  obtain ⟨R, hg⟩ := gvn_ex hL (vn d) (Nat.le_refl _)
  obtain ⟨b, hb⟩ := bestOf_ex d
  obtain ⟨x, hx⟩ := mxO_ex R (vn d)
  obtain ⟨mo, hmo⟩ := mostOf_ex d (2 ^ vn d)
  have hw : ∀ r : Nat, ∃ w : Nat, r < vn d → bestOf d (2 ^ r) (2 ^ vn d) w := by
    intro r
    by_cases hr : r < vn d
    · obtain ⟨w, hw⟩ := bestOf_exw (d := d) (w := 2 ^ r) (2 ^ vn d) ⟨2 ^ r, Nat.pow_lt_pow_right (by decide) hr, chB_one hr, Nat.and_self _⟩
      exact ⟨w, fun _ => hw⟩
    · exact ⟨0, fun h => absurd h hr⟩
  obtain ⟨W, hW⟩ := Classical.axiomOfChoice hw
  exact ⟨L, R, W, b, x, mo, hL, hg, hW, hb, hx, hmo⟩
def b64 (c : Bool) : Int64 := if c = true then 1 else 0
def hRe (d : DV) (R W : Nat → Nat) (r : Nat) (h : Int64) : Int64 :=
  mixH (mixH (mixH (mixH (mixH (mixH (mixH (mixH h (nI (vB d r)).toInt64) (nI (vE d r)).toInt64) (nI (vF d r)).toInt64) (rateF (vF d r) (vE d r - vB d r)).toInt32.toInt64) (b64 ((vK d).testBit r))) (nI (pcn (mk (cl (vP d) (vB d) (vE d) r) (vn d)) 14)).toInt64) (nI (R r)).toInt64) (nI (su (W r) (vF d) (vn d))).toInt64
def hAll (d : DV) (R W : Nat → Nat) (h : Int64) : Nat → Int64
  | 0 => h
  | r + 1 => hRe d R W r (hAll d R W h r)
def hWh (d : DV) (b x mo ss : Nat) (h : Int64) : Int64 :=
  mixH (mixH (mixH (mixH (mixH (mixH (mixH (mixH (mixH (mixH (mixH (mixH (mixH h (nI (vP d)).toInt64) (nI (pcn (vK d) 14)).toInt64) (nI (su (vK d) (vF d) (vn d))).toInt64) (nI (prs (vn d) (vP d) (vB d) (vE d))).toInt64) (nI (prs (vn d) (vP d) (vB d) (vE d))).toInt64) (nI x).toInt64) (nI x).toInt64) (nI (su b (vF d) (vn d))).toInt64) (nI (su b (vF d) (vn d))).toInt64) (nI b).toInt64) (nI mo).toInt64) (nI ss).toInt64) (shareD (su (vK d) (fun k => vE d k - vB d k) (vn d))).toInt64
def hTx (t : Nat → Nat) (h : Int64) : Nat → Int64
  | 0 => h
  | k + 1 => mixH (hTx t h k) (nI (t k)).toInt64
section
variable {d : DV} {db de df : Nat → Int32} {dc dp dk : Int32} {L : List Nat} {R W : Nat → Nat} {b x mo : Nat}
theorem s_req {n r : Nat} (hn : n ≤ 14) (hr : r < n) {Q : Prop} (h : Q) : wn_X5_requireRehearsal (nI n) (nI r) Q := by
  unfold wn_X5_requireRehearsal
  rw [z_0, z_lt (by omega) (by omega), z_lt (by omega) (by omega)]
  exact ⟨fun hx => absurd hx (by omega), fun _ => ⟨fun _ => h, fun hx => absurd hr hx⟩⟩
theorem qK_le (ok : DOK d) : su (vK d) (fun k => vE d k - vB d k) (vn d) ≤ 1344 := by
  have hn := ok.1
  have h := su_le (vK d) (fun k => vE d k - vB d k) 96 (vn d) (fun k hk => by have := (ok.2.2.1 k hk).2.1; show vE d k - vB d k ≤ 96; omega)
  omega
theorem s_mixRe (ok : DOK d) (hd : DC d db de df dc dp dk) (ho : dgO d L R W b x mo) {r : Nat} (hr : r < vn d) {ro rg hO hT : Nat → Int32} {h0 : Int64} {Q : Int64 → (Nat → Int32) → (Nat → Int32) → (Nat → Int32) → (Nat → Int32) → Prop} (h : ∀ ro' rg' hO' hT' : Nat → Int32, Q (hRe d R W r h0) ro' rg' hO' hT') : wn_X5_mixRehearsal db de df dc dp dk ro rg hO hT h0 (nI r) Q := by
  obtain ⟨hL, hg, hW, -, -, -⟩ := ho
  have hn := ok.1
  have hD := hd.r ok
  have hd0 := hd
  obtain ⟨rfl, rfl, rfl, h4⟩ := hd
  obtain ⟨a1, a2, a3⟩ := h4 r hr
  obtain ⟨g1, g2, g3, g4⟩ := ok.2.2.1 r hr
  have hv : vp_in (nI r) 14 := z_in (by omega) (by decide)
  have hM14 : (2:Nat) ^ vn d ≤ 2 ^ 14 := Nat.pow_le_pow_right (by decide) hn
  have q1 : 1 ≤ vE d r - vB d r := by omega
  have q2 : vE d r - vB d r ≤ 96 := by omega
  have rest : ∀ h1 : Int64, h1 = mixH (mixH (mixH (mixH h0 (nI (vB d r)).toInt64) (nI (vE d r)).toInt64) (nI (vF d r)).toInt64) (rateF (vF d r) (vE d r - vB d r)).toInt32.toInt64 → ∀ y1 : Int64, y1 = b64 ((vK d).testBit r) → wj_n_X5_mixRehearsal_68 db de df (nI (vn d)) (nI (vP d)) (nI (vK d)) Q ro rg hO hT h0 (nI r) h1 h1 y1 := by
    intro h1 e1 y1 e2
    subst e1 e2
    unfold wj_n_X5_mixRehearsal_68
    have hml : mk (cl (vP d) (vB d) (vE d) r) (vn d) < 2 ^ 14 := Nat.lt_of_lt_of_le (mk_lt _ _) (Nat.pow_le_pow_right (by decide) hn)
    have h2r : (2:Nat) ^ r < 2 ^ 14 := Nat.pow_lt_pow_right (by decide) (by omega)
    have hcl : clr (2 ^ vn d - 1) r ≤ 2 ^ vn d - 1 := clr_le _ _
    have hle : ntm (clr (2 ^ vn d - 1) r) (mk (cl (vP d) (vB d) (vE d) r) (vn d)) ≤ clr (2 ^ vn d - 1) r := Nat.and_le_left
    have e2 : (nI (2 ^ vn d - 1) &&& (nI (2 ^ r) ^^^ (-1 : Int32))) &&& (nI (mk (cl (vP d) (vB d) (vE d) r) (vn d)) ^^^ (-1 : Int32)) = nI (ntm (clr (2 ^ vn d - 1) r) (mk (cl (vP d) (vB d) (vE d) r) (vn d))) := by
      rw [z_mone, z_mone, z_and, z_and, Nat.mod_eq_of_lt (by omega), Nat.mod_eq_of_lt (by omega)]; rfl
    refine s_mix (s_req hn hr (s_conflictsWith hD hr (s_bits hml (s_mix (s_req hn hr (s_giveAll ok hd0 hL hg (fun ro1 rg1 hR => ⟨hv, ?_⟩)))))))
    rw [z_cl (n := r) (by omega), hR r hr]
    refine s_mix (s_req hn hr (s_all hn (s_bit (by omega) (s_conflictsWith hD hr ⟨hv, ?_⟩))))
    rw [e2, z_cl (n := r) (by omega), a3]
    refine s_fameAmong ok hd0 (by omega) (fun y ho1 ht1 hy => s_mix ?_)
    have e3 := with_eq ok hr (fun k hk => by
      rw [ntm_bit (by omega) (by omega), clr_bit (by omega) (by omega), all_bit, mk_bit, decide_eq_true hk]
      simp) hy (hW r hr)
    rw [nI_add, ← e3]
    exact h _ _ _ _
  unfold wn_X5_mixRehearsal
  refine s_req hn hr ⟨hv, s_mix (s_req hn hr ⟨hv, s_mix (s_req hn hr ⟨hv, s_mix (s_req hn hr ⟨hv, ?_⟩)⟩)⟩)⟩
  rw [z_cl (n := r) (by omega), a1, a2, a3]
  refine s_quartersOf hD hr ⟨rate_n32 g3 g4 q1 q2, s_floatBits g3 g4 q1 q2 (s_mix (s_req hn hr (s_isIn ok.K31 (by omega) ?_)))⟩
  cases hb : (vK d).testBit r
  · exact ⟨fun _ => rest _ rfl _ (by rw [hb]; rfl), fun hx => absurd rfl hx⟩
  · exact ⟨fun hx => absurd hx (by decide), fun _ => rest _ rfl _ (by rw [hb]; rfl)⟩
theorem s_mixWhole (ok : DOK d) (hd : DC d db de df dc dp dk) (ho : dgO d L R W b x mo) {ss : Nat} {sn : Int32} (hs : sn = nI ss) {ro rg hO hC hT : Nat → Int32} {h0 : Int64} {Q : Int64 → (Nat → Int32) → (Nat → Int32) → (Nat → Int32) → (Nat → Int32) → (Nat → Int32) → Prop} (h : ∀ ro' rg' hO' hC' hT' : Nat → Int32, Q (hWh d b x mo ss h0) ro' rg' hO' hC' hT') : wn_X5_mixWhole db de df dc dp dk sn ro rg hO hC hT h0 Q := by
  obtain ⟨hL, hg, -, hb, hx, hmo⟩ := ho
  have hn := ok.1
  have hD := hd.r ok
  have hd0 := hd
  have hM14 : (2:Nat) ^ vn d ≤ 2 ^ 14 := Nat.pow_le_pow_right (by decide) hn
  obtain ⟨rfl, rfl, rfl, h4⟩ := hd
  subst hs
  unfold wn_X5_mixWhole wn_X5_pause wn_X5_booked wn_X5_bookedFame wn_X5_conflictsBySweep wn_X5_roomsBySweep wn_X5_roomsByGiving wn_X5_bestByTrying wn_X5_bestByTable wn_X5_bestChoice wn_X5_mostRehearsals wn_X5_savedStates wn_X5_bookedShare
  refine s_mix (s_bits ok.K (s_mix (s_fameOfSet hD ok.K31 (s_mix (s_conflictsByPairs hD (s_mix (s_sweptPairs hD (s_mix (s_sweptRooms hD ?_))))))))) 
  rw [rooms_eq ok hL hg hx]
  refine s_mix (s_givenRooms ok hd0 hL hg (fun x2 ro1 rg1 hx2 => ?_))
  have e1 := mxO_un hx2 hx
  subst e1
  refine s_mix (s_triedFame ok hd0 (fun y hc1 hy => ?_))
  rw [← best_eq hy hb]
  refine s_mix (s_all hn (s_fameAmong ok hd0 (by omega) (fun y2 ho1 ht1 hy2 => ?_)))
  rw [su_best hb (fun k hk => by rw [all_bit]; exact decide_eq_true (bit_lt hb.1 hk)) hy2]
  refine s_mix (s_bestSet ok hd0 (fun b2 ho2 ht2 hb2 => ?_))
  have e2 := bestOf_un hb2 hb
  subst e2
  refine s_mix (s_mostInOne ok hd0 (fun m2 ho3 hm2 => ?_))
  have e3 := mostOf_un hm2 hmo
  subst e3
  exact s_mix (s_mix (s_quartersOfSet hD ok.K31 ⟨share_n64 (qK_le ok), s_doubleBits (qK_le ok) (s_mix (h _ _ _ _ _))⟩))
def hTk (N : Nat → Option DV) (h : Int64) : Int64 := mixH (mixH h (b64 (N 0).isSome)) (b64 (N 1).isSome)
def hDg (d : DV) (N : Nat → Option DV) (R W : Nat → Nat) (b x mo ss n : Nat) (t : Nat → Nat) : Int64 :=
  hTx t (mixH (hTk N (hWh d b x mo ss (hAll d R W (mixH (4327 : Int64) (nI (vn d)).toInt64) (vn d)))) (nI n).toInt64) n
theorem s_digTx {n : Nat} {t : Nat → Nat} {tk tc : Nat → Int32} {tl sn : Int32} (ht : TC n t tc tl) {ro rg hO hC hT : Nat → Int32} {h0 : Int64} {Q : Int64 → (Nat → Int32) → (Nat → Int32) → (Nat → Int32) → (Nat → Int32) → (Nat → Int32) → Prop} (h : Q (hTx t h0 n) ro rg hO hC hT) : ∃ fu, wl_n_X5_digest_91 db de df dc dp dk sn tk tc tl Q fu ro rg hO hC hT h0 (0 : Int32) := by
  obtain ⟨rfl, h60, hc⟩ := ht
  have key : ∀ m k : Nat, k + m = n → wl_n_X5_digest_91 db de df dc dp dk sn tk tc (nI n) Q (m + 1) ro rg hO hC hT (hTx t h0 k) (nI k) := by
    intro m
    induction m with
    | zero =>
      intro k hk
      rw [wl_n_X5_digest_91, z_le (by omega) (by omega)]
      exact ⟨fun _ => by rw [show k = n by omega]; exact h, fun hx => absurd (by omega) hx⟩
    | succ m ih =>
      intro k hk
      rw [wl_n_X5_digest_91, z_le (by omega) (by omega), z_cl (n := k) (by omega), hc k (by omega), nI_1]
      exact ⟨fun hx => absurd hx (by omega), fun _ => ⟨z_in (by omega) (by decide), s_mix (ih (k + 1) (by omega))⟩⟩
  exact ⟨n + 1, key n 0 (by omega)⟩
theorem s_digTk {N : Nat → Option DV} {n : Nat} {t : Nat → Nat} {nb ne nf : Nat → Nat → Int32} {nc np nk tk tc : Nat → Int32} {tl sn : Int32} (hN : NC N nb ne nf nc np nk tk) (ht : TC n t tc tl) {ro rg hO hC hT : Nat → Int32} {h0 : Int64} {Q : Int64 → (Nat → Int32) → (Nat → Int32) → (Nat → Int32) → (Nat → Int32) → (Nat → Int32) → Prop} (h : Q (hTx t (mixH (hTk N h0) (nI n).toInt64) n) ro rg hO hC hT) : ∃ fu, wl_n_X5_digest_46 db de df dc dp dk sn tk tc tl Q fu ro rg hO hC hT h0 (0 : Int32) := by
  have stop : ∀ h1 : Int64, h1 = hTk N h0 → wl_n_X5_digest_46 db de df dc dp dk sn tk tc tl Q 1 ro rg hO hC hT h1 (nI 2) := by
    intro h1 e
    subst e
    rw [wl_n_X5_digest_46]
    refine ⟨fun _ => s_mix (s_digTx ht ?_), fun hx => absurd (by decide) hx⟩
    rw [ht.1]
    exact h
  have step : ∀ (m i : Nat) (h1 : Int64), i < 2 → wl_n_X5_digest_46 db de df dc dp dk sn tk tc tl Q m ro rg hO hC hT (mixH h1 (b64 (N i).isSome)) (nI (i + 1)) → wl_n_X5_digest_46 db de df dc dp dk sn tk tc tl Q (m + 1) ro rg hO hC hT h1 (nI i) := by
    intro m i h1 hi hk
    have e := (hN i hi).1
    rw [wl_n_X5_digest_46, z_2, z_le (by omega) (by omega), z_cl (n := i) (by omega), e]
    refine ⟨fun hx => absurd hx (by omega), fun _ => ⟨z_in (by omega) (by decide), ?_⟩⟩
    unfold wj_n_X5_digest_66
    rw [nI_1]
    cases hq : (N i).isSome
    · rw [hq] at hk
      exact ⟨fun _ => s_mix hk, fun hx => absurd rfl hx⟩
    · rw [hq] at hk
      exact ⟨fun hx => absurd hx (by decide), fun _ => s_mix hk⟩
  exact ⟨3, step 2 0 h0 (by decide) (step 1 1 _ (by decide) (stop _ rfl))⟩
theorem s_digest (ok : DOK d) (hd : DC d db de df dc dp dk) (ho : dgO d L R W b x mo) {ss : Nat} {sn : Int32} (hs : sn = nI ss) {N : Nat → Option DV} {n : Nat} {t : Nat → Nat} {nb ne nf : Nat → Nat → Int32} {nc np nk tk tc : Nat → Int32} {tl : Int32} (hN : NC N nb ne nf nc np nk tk) (ht : TC n t tc tl) {ro rg hO hC hT : Nat → Int32} {Q : Int64 → (Nat → Int32) → (Nat → Int32) → (Nat → Int32) → (Nat → Int32) → (Nat → Int32) → Prop} (h : ∀ ro' rg' hO' hC' hT' : Nat → Int32, Q (hDg d N R W b x mo ss n t) ro' rg' hO' hC' hT') : wn_X5_digest db de df dc dp dk sn tk tc tl ro rg hO hC hT Q := by
  have hn := ok.1
  have hdc : dc = nI (vn d) := hd.1
  have key : ∀ (m k : Nat) (ro rg hO hT : Nat → Int32), k + m = vn d → wl_n_X5_digest_14 db de df dc dp dk sn tk tc tl Q (m + 1) ro rg hO hC hT (hAll d R W (mixH (4327 : Int64) (nI (vn d)).toInt64) k) (nI k) := by
    intro m
    induction m with
    | zero =>
      intro k ro rg hO hT hk
      have hle : dc ≤ nI k := by rw [hdc, z_le (by omega) (by omega)]; omega
      rw [wl_n_X5_digest_14]
      refine ⟨fun _ => s_mixWhole ok hd ho hs (fun ro1 rg1 ho1 hc1 ht1 => s_digTk hN ht ?_), fun hx => absurd hle hx⟩
      rw [show k = vn d by omega]
      exact h _ _ _ _ _
    | succ m ih =>
      intro k ro rg hO hT hk
      have hle : ¬ dc ≤ nI k := by rw [hdc, z_le (by omega) (by omega)]; omega
      rw [wl_n_X5_digest_14, nI_1]
      exact ⟨fun hx => absurd hx hle, fun _ => s_mixRe ok hd ho (by omega) (fun ro1 rg1 ho1 ht1 => ih (k + 1) _ _ _ _ (by omega))⟩
  unfold wn_X5_digest wn_X5_rehearsals
  refine s_mix ?_
  have k0 := key (vn d) 0 ro rg hO hT (by omega)
  rw [hdc] at k0 ⊢
  exact ⟨vn d + 1, k0⟩
end
section
variable {d : DV} {yn : Nat → Int32} {L : List Nat} {R W : Nat → Nat} {b x mo : Nat}
end
