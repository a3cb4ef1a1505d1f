/-! the order by keys -/
def OL (L : List Nat) (f : Nat → Int32) : Prop := ∀ (i r : Nat), L[i]? = some r → f i = nI r
def rk (B : Nat → Nat) (a b : Nat) : Prop := B a < B b ∨ (B a = B b ∧ a < b)
/-- m put in at place p -/
def insA (L : List Nat) (p m : Nat) : List Nat := L.take p ++ m :: L.drop p
theorem insA_lo {L : List Nat} {p m i : Nat} (hp : p ≤ L.length) (hi : i < p) : (insA L p m)[i]? = L[i]? := by
  unfold insA
  rw [List.getElem?_append_left (by rw [List.length_take]; omega), List.getElem?_take_of_lt hi]
theorem insA_at {L : List Nat} {p m : Nat} (hp : p ≤ L.length) : (insA L p m)[p]? = some m := by
  unfold insA
  rw [List.getElem?_append_right (by rw [List.length_take]; omega), List.length_take, Nat.min_eq_left hp, Nat.sub_self]
  rfl
theorem insA_hi {L : List Nat} {p m i : Nat} (hp : p ≤ L.length) (hi : p ≤ i) : (insA L p m)[i + 1]? = L[i]? := by
  unfold insA
  rw [List.getElem?_append_right (by rw [List.length_take]; omega), List.length_take, Nat.min_eq_left hp, show i + 1 - p = (i - p) + 1 by omega, List.getElem?_cons_succ, List.getElem?_drop, show p + (i - p) = i by omega]
theorem insA_perm {L : List Nat} {p m : Nat} (hL : L.Perm (List.range m)) : (insA L p m).Perm (List.range (m + 1)) := by
  unfold insA
  refine List.perm_middle.trans ?_
  rw [List.take_append_drop, List.range_succ]
  exact (hL.cons m).trans (List.perm_append_singleton m _).symm
theorem insA_pw {B : Nat → Nat} {L : List Nat} {p m : Nat} (hL : L.Perm (List.range m)) (hs : L.Pairwise (rk B)) (hlo : ∀ a, a ∈ L.take p → B a ≤ B m) (hhi : ∀ b, b ∈ L.drop p → B m < B b) : (insA L p m).Pairwise (rk B) := by
  have hs2 := hs
  rw [← List.take_append_drop p L, List.pairwise_append] at hs2
  obtain ⟨s1, s2, s3⟩ := hs2
  unfold insA
  rw [List.pairwise_append]
  refine ⟨s1, List.pairwise_cons.mpr ⟨fun b hb => Or.inl (hhi b hb), s2⟩, fun a ha b hb => ?_⟩
  rcases List.mem_cons.mp hb with rfl | hb
  · have h1 := hlo a ha
    have h2 : a ∈ List.range b := hL.mem_iff.mp (List.mem_of_mem_take ha)
    rw [List.mem_range] at h2
    unfold rk
    omega
  · exact s3 a ha b hb
theorem s_orderBy {n : Nat} (hn : n ≤ 14) {B : Nat → Nat} (hB : ∀ k, k < n → B k < 1000) {uu vv : Nat → Int32} (hu : ∀ k, k < n → uu k = nI (B k)) {Q : (Nat → Int32) → Prop} (h : ∀ (L : List Nat) (vv' : Nat → Int32), L.Perm (List.range n) → L.Pairwise (rk B) → OL L vv' → Q vv') : wn_X5_orderBy uu vv (nI n) Q := by
  have inner : ∀ (k2 : (Nat → Int32) → Int32 → Int32 → Prop) (m : Nat) (L : List Nat), m < n → L.Perm (List.range m) → L.Pairwise (rk B) →
      (∀ (L' : List Nat) (f : Nat → Int32), L'.Perm (List.range (m + 1)) → L'.Pairwise (rk B) → OL L' f → k2 f (nI n) (nI m + 1)) →
      ∀ (p : Nat) (f : Nat → Int32), p ≤ m → (∀ i r, i < p → L[i]? = some r → f i = nI r) → (∀ i r, p ≤ i → L[i]? = some r → f (i + 1) = nI r) → (∀ i r, p ≤ i → L[i]? = some r → B m < B r) → wl_n_X5_orderBy_10 uu Q k2 (p + 1) f (nI n) (nI m) (nI p) := by
    intro k2 m L hm hL hs hk
    have hlen : L.length = m := by rw [hL.length_eq, List.length_range]
    have hdrop : ∀ p, (∀ i r, p ≤ i → L[i]? = some r → B m < B r) → ∀ b, b ∈ L.drop p → B m < B b := by
      intro p h3 b hb
      obtain ⟨i, hi⟩ := List.mem_iff_getElem?.mp hb
      rw [List.getElem?_drop] at hi
      exact h3 (p + i) b (by omega) hi
    have stop : ∀ (p : Nat) (f : Nat → Int32), p ≤ m → (∀ i r, i < p → L[i]? = some r → f i = nI r) → (∀ i r, p ≤ i → L[i]? = some r → f (i + 1) = nI r) → (∀ i r, p ≤ i → L[i]? = some r → B m < B r) → (∀ a, a ∈ L.take p → B a ≤ B m) → wj_n_X5_orderBy_45 uu Q k2 f (nI n) (nI m) (nI p) := by
      intro p f hp h1 h2 h3 h4
      unfold wj_n_X5_orderBy_45
      rw [z_cl (by omega)]
      refine ⟨z_in (by omega) (by decide), hk (insA L p m) _ (insA_perm hL) (insA_pw hL hs h4 (hdrop p h3)) (fun i r hi => ?_)⟩
      rcases Nat.lt_trichotomy i p with hip | hip | hip
      · rw [insA_lo (by omega) hip] at hi
        rw [pk_un (by omega)]
        exact h1 i r hip hi
      · subst hip
        rw [insA_at (by omega)] at hi
        cases hi
        exact pk_us
      · obtain ⟨j, rfl⟩ : ∃ j, i = j + 1 := ⟨i - 1, by omega⟩
        rw [insA_hi (by omega) (by omega)] at hi
        rw [pk_un (by omega)]
        exact h2 j r (by omega) hi
    intro p
    induction p with
    | zero =>
      intro f hp h1 h2 h3
      rw [wl_n_X5_orderBy_10]
      exact ⟨fun _ => stop 0 f hp h1 h2 h3 (fun a ha => by rw [List.take_zero] at ha; cases ha), fun hc => absurd (by decide) hc⟩
    | succ q ih =>
      intro f hp h1 h2 h3
      obtain ⟨r, hr⟩ : ∃ r, L[q]? = some r := ⟨L[q]'(by omega), List.getElem?_eq_getElem (by omega)⟩
      have hrm : r < m := by
        have h5 : r ∈ List.range m := hL.mem_iff.mp (List.mem_of_getElem? hr)
        rwa [List.mem_range] at h5
      have e0 : (nI (q + 1) ≤ 0) = (q + 1 ≤ 0) := by rw [z_0, z_le (by omega) (by decide)]
      have hbr := hB r (by omega)
      have hbm := hB m hm
      rw [wl_n_X5_orderBy_10, e0, nI_pred, z_cl (n := q) (by omega), z_cl (n := q + 1) (by omega), h1 q r (by omega) hr, z_cl (n := r) (by omega), z_cl (n := m) (by omega), hu r (by omega), hu m hm, z_le (by omega) (by omega), pk_m1]
      refine ⟨fun hc => absurd hc (by omega), fun _ => ⟨z_in (by omega) (by decide), z_in (by omega) (by decide), z_in (by omega) (by decide), fun hle => stop (q + 1) f hp h1 h2 h3 (fun a ha => ?_), fun hle => ⟨z_in (by omega) (by decide), z_in (by omega) (by decide), ih _ (by omega) (fun i r' hi hr' => ?_) (fun i r' hi hr' => ?_) (fun i r' hi hr' => ?_)⟩⟩⟩
      · obtain ⟨i, hi⟩ := List.mem_iff_getElem?.mp ha
        have hiq : i < q + 1 := by
          rcases Nat.lt_or_ge i (q + 1) with h | h
          · exact h
          · rw [List.getElem?_eq_none (by rw [List.length_take]; omega)] at hi; cases hi
        rw [List.getElem?_take_of_lt hiq] at hi
        by_cases hiq2 : i = q
        · subst hiq2; rw [hr] at hi; cases hi; exact hle
        · have hpw := List.pairwise_iff_getElem.mp hs i q (by omega) (by omega) (by omega)
          rw [List.getElem?_eq_getElem (by omega)] at hi hr
          rw [Option.some.inj hi, Option.some.inj hr] at hpw
          unfold rk at hpw
          omega
      · rw [pk_un (by omega)]; exact h1 i r' (by omega) hr'
      · by_cases hiq : i = q
        · subst hiq; rw [hr] at hr'; cases hr'; exact pk_us
        · rw [pk_un (by omega)]; exact h2 i r' (by omega) hr'
      · by_cases hiq : i = q
        · subst hiq; rw [hr] at hr'; cases hr'; omega
        · exact h3 i r' (by omega) hr'
  have main : ∀ (k m : Nat) (L : List Nat) (f : Nat → Int32), m + k = n → L.Perm (List.range m) → L.Pairwise (rk B) → OL L f → wl_n_X5_orderBy_2 uu Q (k + 1) f (nI n) (nI m) := by
    intro k
    induction k with
    | zero =>
      intro m L f hm hL hs hO
      rw [wl_n_X5_orderBy_2, z_le (by omega) (by omega)]
      refine ⟨fun _ => h L f (by rw [show n = m by omega]; exact hL) hs hO, fun hc => absurd (by omega) hc⟩
    | succ k ih =>
      intro m L f hm hL hs hO
      have hlen : L.length = m := by rw [hL.length_eq, List.length_range]
      rw [wl_n_X5_orderBy_2, z_le (by omega) (by omega)]
      refine ⟨fun hc => absurd hc (by omega), fun _ => ⟨m + 1, ?_⟩⟩
      refine inner (fun z0 z1 z2 => wl_n_X5_orderBy_2 uu Q (k + 1) z0 z1 z2) m L (by omega) hL hs (fun L' f' hL' hs' hO' => ?_) m f (Nat.le_refl m) (fun i r _ hi => hO i r hi) (fun i r hi hr => ?_) (fun i r hi hr => ?_)
      · show wl_n_X5_orderBy_2 uu Q (k + 1) f' (nI n) (nI m + 1)
        rw [nI_1]
        exact ih (m + 1) L' f' (by omega) hL' hs' hO'
      · rw [List.getElem?_eq_none (by omega)] at hr; cases hr
      · rw [List.getElem?_eq_none (by omega)] at hr; cases hr
  exact ⟨n + 1, main n 0 [] vv (by omega) (List.Perm.refl _) List.Pairwise.nil (fun i r hi => by cases hi)⟩
