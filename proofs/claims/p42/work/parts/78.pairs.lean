/-! pairs in conflict: pair by pair, by the quarters, by the sets of foes -/
def sm (f : Nat → Nat) : Nat → Nat
  | 0 => 0
  | k + 1 => sm f k + f k
theorem sm_congr {f g : Nat → Nat} : ∀ {n : Nat}, (∀ k, k < n → f k = g k) → sm f n = sm g n
  | 0, _ => rfl
  | n + 1, h => by
    unfold sm
    rw [sm_congr (fun k hk => h k (by omega)), h n (by omega)]
theorem sm_add (f g : Nat → Nat) : ∀ n, sm (fun k => f k + g k) n = sm f n + sm g n
  | 0 => rfl
  | n + 1 => by
    unfold sm
    rw [sm_add f g n]
    omega
theorem sm_zero : ∀ n, sm (fun _ => 0) n = 0
  | 0 => rfl
  | n + 1 => by unfold sm; rw [sm_zero n]
theorem sm_mulc (c : Nat) (f : Nat → Nat) : ∀ n, sm (fun k => c * f k) n = c * sm f n
  | 0 => rfl
  | n + 1 => by unfold sm; rw [sm_mulc c f n, Nat.mul_add]
theorem sm_mulr (c : Nat) (f : Nat → Nat) : ∀ n, sm (fun k => f k * c) n = sm f n * c
  | 0 => by simp [sm]
  | n + 1 => by unfold sm; rw [sm_mulr c f n, Nat.add_mul]
theorem sm_swap (f : Nat → Nat → Nat) (m : Nat) : ∀ n, sm (fun i => sm (fun j => f i j) m) n = sm (fun j => sm (fun i => f i j) n) m
  | 0 => by
    show 0 = sm (fun _ => 0) m
    rw [sm_zero]
  | n + 1 => by
    show sm (fun i => sm (fun j => f i j) m) n + sm (fun j => f n j) m = sm (fun j => sm (fun i => f i j) n + f n j) m
    rw [sm_swap f m n, sm_add]
theorem sm_le {f g : Nat → Nat} : ∀ {n : Nat}, (∀ k, k < n → f k ≤ g k) → sm f n ≤ sm g n
  | 0, _ => Nat.le_refl 0
  | n + 1, h => by
    have h1 := sm_le (f := f) (g := g) (n := n) (fun k hk => h k (by omega))
    have h2 := h n (by omega)
    unfold sm
    omega
theorem sm_one (x : Nat → Nat) (i : Nat) : ∀ n, sm (fun j => if i = j then x j else 0) n = if i < n then x i else 0
  | 0 => rfl
  | n + 1 => by
    unfold sm
    rw [sm_one x i n]
    by_cases h1 : i < n
    · rw [if_pos h1, if_neg (by omega), if_pos (by omega)]; omega
    · by_cases h2 : i = n
      · subst h2; rw [if_neg h1, if_pos rfl, if_pos (by omega)]; omega
      · rw [if_neg h1, if_neg h2, if_neg (by omega)]
theorem ct_sm (p : Nat → Bool) : ∀ n, ct p n = sm (fun k => if p k = true then 1 else 0) n
  | 0 => rfl
  | n + 1 => by
    unfold ct sm
    rw [ct_sm p n]
    by_cases h : p n = true
    · rw [if_pos h, if_pos h]
    · rw [if_neg h, if_neg h]; omega
theorem pcn_ct (p : Nat → Bool) (n : Nat) : ∀ m, m ≤ n → pcn (mk p n) m = ct p m
  | 0, _ => rfl
  | m + 1, h => by
    unfold pcn ct
    rw [pcn_ct p n m (by omega), bit_shr, mk_bit, decide_eq_true (by omega : m < n), Bool.true_and]
    cases hp : p m <;> simp
theorem pcn_more (p : Nat → Bool) (n : Nat) : ∀ m, pcn (mk p n) (n + m) = ct p n
  | 0 => pcn_ct p n n (Nat.le_refl n)
  | m + 1 => by
    show pcn (mk p n) (n + m) + mk p n / 2 ^ (n + m) % 2 = ct p n
    rw [pcn_more p n m, bit_shr, mk_bit, decide_eq_false (by omega : ¬ n + m < n), Bool.false_and]
    rfl
theorem pcn_mk (p : Nat → Bool) {n : Nat} (hn : n ≤ 14) : pcn (mk p n) 14 = ct p n := by
  have h := pcn_more p n (14 - n)
  rw [show n + (14 - n) = 14 by omega] at h
  exact h
section
variable {n P : Nat} {B E : Nat → Nat}
/-- all pairs, each twice -/
def prs2 (n P : Nat) (B E : Nat → Nat) : Nat := sm (fun i => ct (cl P B E i) n) n
def prs (n P : Nat) (B E : Nat → Nat) : Nat := sm (fun i => ct (fun j => decide (i < j) && cl P B E i j) n) n
theorem cl_irr (P : Nat) (B E : Nat → Nat) (i : Nat) : cl P B E i i = false := by unfold cl; simp
theorem prs_twice (n P : Nat) (B E : Nat → Nat) : prs2 n P B E = prs n P B E + prs n P B E := by
  have h1 : prs2 n P B E = sm (fun i => sm (fun j => (if (decide (i < j) && cl P B E i j) = true then 1 else 0) + (if (decide (j < i) && cl P B E j i) = true then 1 else 0)) n) n := by
    unfold prs2
    refine sm_congr (fun i _ => ?_)
    rw [ct_sm]
    refine sm_congr (fun j _ => ?_)
    rcases Nat.lt_trichotomy i j with h | h | h
    · rw [decide_eq_true h, decide_eq_false (by omega : ¬ j < i), Bool.true_and, Bool.false_and]; simp
    · subst h; rw [cl_irr]; simp
    · rw [decide_eq_true h, decide_eq_false (by omega : ¬ i < j), Bool.true_and, Bool.false_and, cl_symm]; simp
  have h2 : prs n P B E = sm (fun i => sm (fun j => if (decide (i < j) && cl P B E i j) = true then 1 else 0) n) n := by
    unfold prs
    exact sm_congr (fun i _ => ct_sm _ _)
  rw [h1]
  rw [show (fun i => sm (fun j => (if (decide (i < j) && cl P B E i j) = true then 1 else 0) + (if (decide (j < i) && cl P B E j i) = true then 1 else 0)) n) = (fun i => sm (fun j => if (decide (i < j) && cl P B E i j) = true then 1 else 0) n + sm (fun j => if (decide (j < i) && cl P B E j i) = true then 1 else 0) n) from funext (fun i => sm_add _ _ n)]
  rw [sm_add, ← h2, sm_swap (fun i j => if (decide (j < i) && cl P B E j i) = true then 1 else 0), ← h2]
theorem prs2_le (n P : Nat) (B E : Nat → Nat) : prs2 n P B E ≤ n * n := by
  have h : prs2 n P B E ≤ sm (fun _ => n * 1) n := sm_le (fun k _ => by rw [Nat.mul_one]; exact ct_le _ _)
  rw [sm_mulc] at h
  have h2 : ∀ n, sm (fun _ => 1) n = n := by
    intro n
    induction n with
    | zero => rfl
    | succ n ih => unfold sm; rw [ih]
  rw [h2] at h
  exact h
/-! by the quarters -/
def bgn (n : Nat) (B : Nat → Nat) (q : Nat) : Nat := sm (fun k => if B k = q then 1 else 0) n
def gng (n P : Nat) (B E : Nat → Nat) (q : Nat) : Nat := sm (fun k => if B k < q ∧ q < E k + P then 1 else 0) n
def swp (n P : Nat) (B E : Nat → Nat) (q : Nat) : Nat := sm (fun q => bgn n B q * gng n P B E q + bgn n B q * (bgn n B q - 1) / 2) q
theorem half15 : ∀ b, b < 15 → b * (b - 1) / 2 * 2 = b * (b - 1) := by decide
theorem bgn_le (n : Nat) (B : Nat → Nat) (q : Nat) : bgn n B q ≤ n := by
  unfold bgn
  have h : ∀ n, sm (fun k => if B k = q then 1 else 0) n ≤ n := by
    intro n
    induction n with
    | zero => exact Nat.le_refl 0
    | succ n ih => unfold sm; split <;> omega
  exact h n
theorem gng_le (n P : Nat) (B E : Nat → Nat) (q : Nat) : gng n P B E q ≤ n := by
  unfold gng
  have h : ∀ n, sm (fun k => if B k < q ∧ q < E k + P then 1 else 0) n ≤ n := by
    intro n
    induction n with
    | zero => exact Nat.le_refl 0
    | succ n ih => unfold sm; split <;> omega
  exact h n
theorem swp_at (hE : ∀ k, k < n → B k < E k) (q : Nat) : sm (fun i => sm (fun j => if cl P B E i j = true ∧ max (B i) (B j) = q then 1 else 0) n) n + bgn n B q = bgn n B q * bgn n B q + bgn n B q * gng n P B E q + gng n P B E q * bgn n B q := by
  have hp : ∀ i j, i < n → j < n → (if cl P B E i j = true ∧ max (B i) (B j) = q then 1 else 0) + (if i = j then (if B j = q then 1 else 0) else 0) = (if B i = q then 1 else 0) * (if B j = q then 1 else 0) + (if B i = q then 1 else 0) * (if B j < q ∧ q < E j + P then 1 else 0) + (if B i < q ∧ q < E i + P then 1 else 0) * (if B j = q then 1 else 0) := by
    intro i j hi hj
    have e1 := hE i hi
    have e2 := hE j hj
    have hc : (cl P B E i j = true) ↔ (i ≠ j ∧ B j < E i + P ∧ B i < E j + P) := by
      unfold cl; simp
    by_cases hij : i = j
    · subst hij
      by_cases h1 : B i = q
      · simp [hc, h1]
      · simp [hc, h1]
    · by_cases h1 : B i = q
      · by_cases h2 : B j = q
        · rw [if_pos (by rw [hc]; omega), if_neg hij, if_pos h1, if_pos h2, if_neg (by omega), if_neg (by omega)]
        · by_cases h3 : B j < q ∧ q < E j + P
          · rw [if_pos (by rw [hc]; omega), if_neg hij, if_pos h1, if_neg h2, if_pos h3, if_neg (by omega)]
          · rw [if_neg (by rw [hc]; omega), if_neg hij, if_pos h1, if_neg h2, if_neg h3, if_neg (by omega)]
      · by_cases h2 : B j = q
        · by_cases h3 : B i < q ∧ q < E i + P
          · rw [if_pos (by rw [hc]; omega), if_neg hij, if_neg h1, if_pos h2, if_neg (by omega), if_pos h3]
          · rw [if_neg (by rw [hc]; omega), if_neg hij, if_neg h1, if_pos h2, if_neg (by omega), if_neg h3]
        · rw [if_neg (by omega), if_neg hij, if_neg h1, if_neg h2]
          simp
  have hl : sm (fun i => sm (fun j => if i = j then (if B j = q then 1 else 0) else 0) n) n = bgn n B q := by
    unfold bgn
    refine sm_congr (fun i hi => ?_)
    rw [sm_one (fun j => if B j = q then 1 else 0), if_pos hi]
  have hs : sm (fun i => sm (fun j => (if cl P B E i j = true ∧ max (B i) (B j) = q then 1 else 0) + (if i = j then (if B j = q then 1 else 0) else 0)) n) n = sm (fun i => sm (fun j => if cl P B E i j = true ∧ max (B i) (B j) = q then 1 else 0) n) n + bgn n B q := by
    rw [← hl, ← sm_add]
    exact sm_congr (fun i _ => sm_add _ _ n)
  rw [← hs]
  have ht : ∀ i, i < n → sm (fun j => (if cl P B E i j = true ∧ max (B i) (B j) = q then 1 else 0) + (if i = j then (if B j = q then 1 else 0) else 0)) n = (if B i = q then 1 else 0) * bgn n B q + (if B i = q then 1 else 0) * gng n P B E q + (if B i < q ∧ q < E i + P then 1 else 0) * bgn n B q := by
    intro i hi
    rw [sm_congr (fun j hj => hp i j hi hj), sm_add, sm_add, sm_mulc, sm_mulc, sm_mulc]
    rfl
  rw [sm_congr ht, sm_add, sm_add, sm_mulr, sm_mulr, sm_mulr]
  rfl
theorem swp_all (hn : n ≤ 14) (hE : ∀ k, k < n → B k < E k) (h96 : ∀ k, k < n → B k < 96) : swp n P B E 96 = prs n P B E := by
  have h1 : prs2 n P B E = sm (fun q => sm (fun i => sm (fun j => if cl P B E i j = true ∧ max (B i) (B j) = q then 1 else 0) n) n) 96 := by
    rw [sm_swap (fun q i => sm (fun j => if cl P B E i j = true ∧ max (B i) (B j) = q then 1 else 0) n)]
    unfold prs2
    refine sm_congr (fun i hi => ?_)
    rw [sm_swap (fun q j => if cl P B E i j = true ∧ max (B i) (B j) = q then 1 else 0), ct_sm]
    refine sm_congr (fun j hj => ?_)
    have hm : max (B i) (B j) < 96 := by have := h96 i hi; have := h96 j hj; omega
    by_cases hc : cl P B E i j = true
    · have h2 := sm_one (fun _ => 1) (max (B i) (B j)) 96
      rw [if_pos hm] at h2
      rw [if_pos hc]
      refine Eq.trans h2.symm (sm_congr (fun q _ => ?_))
      by_cases hq : max (B i) (B j) = q
      · rw [if_pos hq, if_pos ⟨hc, hq⟩]
      · rw [if_neg hq, if_neg (fun h => hq h.2)]
    · rw [if_neg hc]
      have h3 : sm (fun q => if cl P B E i j = true ∧ max (B i) (B j) = q then 1 else 0) 96 = sm (fun _ => 0) 96 := sm_congr (fun q _ => if_neg (fun h => hc h.1))
      rw [h3, sm_zero]
  have h2 : prs2 n P B E = 2 * swp n P B E 96 := by
    rw [h1]
    unfold swp
    rw [← sm_mulc]
    refine sm_congr (fun q _ => ?_)
    have h3 := swp_at (P := P) hE q
    have h4 := half15 (bgn n B q) (by have := bgn_le n B q; omega)
    generalize hb : bgn n B q = b at h3 h4
    generalize hg : gng n P B E q = g at h3
    have h5 : b * (b - 1) + b = b * b := by
      cases b with
      | zero => rfl
      | succ b => rw [Nat.add_sub_cancel, Nat.mul_succ (b + 1) b]
    rw [Nat.mul_comm g b] at h3
    generalize b * g = bg at h3
    generalize b * b = bb at h3 h5
    generalize b * (b - 1) = bm at h4 h5
    omega
  have h3 := prs_twice n P B E
  omega
end
section
variable {n P : Nat} {B E F : Nat → Nat} {db de df : Nat → Int32} {dc dp : Int32}
theorem s_conflictsByPairs (hD : DR n P B E F db de df dc dp) {Q : Int32 → Prop} (h : Q (nI (prs n P B E))) : wn_X5_conflictsByPairs db de dc dp Q := by
  have hn := hD.2.1
  have hdc := hD.1
  have inner : ∀ (kk : Int32 → Int32 → Prop) (i a : Nat), i < n → kk (nI (a + ct (fun j => decide (i < j) && cl P B E i j) n)) (nI i + (1 : Int32)) → ∀ m k : Nat, k + m = n → i < k → wl_n_X5_conflictsByPairs_19 db de dc dp Q kk (m + 1) (nI (a + ct (fun j => decide (i < j) && cl P B E i j) k)) (nI i) (nI k) := by
    intro kk i a hi hkk m
    induction m with
    | zero =>
      intro k hk hik
      rw [wl_n_X5_conflictsByPairs_19, hdc, z_le (by omega) (by omega)]
      refine ⟨fun _ => ?_, fun hc => absurd (by omega) hc⟩
      rw [show k = n by omega]
      exact hkk
    | succ m ih =>
      intro k hk hik
      have ih := ih (k + 1) (by omega) (by omega)
      unfold ct at ih
      rw [decide_eq_true hik, Bool.true_and, ← nI_1 k] at ih
      rw [wl_n_X5_conflictsByPairs_19, hdc, z_le (by omega) (by omega)]
      rw [← hdc]
      refine ⟨fun hc => absurd hc (by omega), fun _ => s_clash hD hi (by omega) ?_⟩
      cases hb : cl P B E i k
      · rw [hb] at ih
        exact ⟨fun _ => ih, fun hc => absurd rfl hc⟩
      · rw [hb] at ih
        refine ⟨fun hc => absurd hc (by decide), fun _ => ?_⟩
        rw [nI_1]
        exact ih
  have start : ∀ i k : Nat, k ≤ i + 1 → ct (fun j => decide (i < j) && cl P B E i j) k = 0 := by
    intro i k
    induction k with
    | zero => intro _; rfl
    | succ k ih =>
      intro hk
      unfold ct
      rw [decide_eq_false (by omega : ¬ i < k), Bool.false_and, ih (by omega)]
      rfl
  have key : ∀ m i : Nat, i + m = n → wl_n_X5_conflictsByPairs_4 db de dc dp Q (m + 1) (nI (sm (fun i => ct (fun j => decide (i < j) && cl P B E i j) n) i)) (nI i) := by
    intro m
    induction m with
    | zero =>
      intro i hi
      rw [wl_n_X5_conflictsByPairs_4, hdc, z_le (by omega) (by omega)]
      refine ⟨fun _ => ?_, fun hc => absurd (by omega) hc⟩
      rw [show i = n by omega]
      exact h
    | succ m ih =>
      intro i hi
      rw [wl_n_X5_conflictsByPairs_4, hdc, z_le (by omega) (by omega)]
      rw [← hdc]
      refine ⟨fun hc => absurd hc (by omega), fun _ => ⟨n - (i + 1) + 1, ?_⟩⟩
      rw [nI_1]
      have hi2 := inner (fun z0 z1 => wl_n_X5_conflictsByPairs_4 db de dc dp Q (m + 1) z0 z1) i (sm (fun i => ct (fun j => decide (i < j) && cl P B E i j) n) i) (by omega) (by rw [nI_1]; exact ih (i + 1) (by omega)) (n - (i + 1)) (i + 1) (by omega) (by omega)
      rw [start i (i + 1) (Nat.le_refl _), Nat.add_zero] at hi2
      exact hi2
  exact ⟨n + 1, key n 0 (by omega)⟩
theorem s_over (hD : DR n P B E F db de df dc dp) {q : Nat} (hq : q < 1000) {Q : Int32 → Prop} (h : Q (nI (sm (fun k => if E k + P = q then 1 else 0) n))) : wn_X1_overAt de dc dp (nI q) Q := by
  refine s_overAt hD hq ?_
  rw [ct_sm]
  simp only [decide_eq_true_eq]
  exact h
theorem s_begin (hD : DR n P B E F db de df dc dp) {q : Nat} (hq : q < 1000) {Q : Int32 → Prop} (h : Q (nI (bgn n B q))) : wn_X1_beginningAt db dc (nI q) Q := by
  refine s_beginningAt hD hq ?_
  rw [ct_sm]
  simp only [decide_eq_true_eq]
  exact h
/-- those begun ahead of q whose pause isn't over ahead of it -/
def gnh (n P : Nat) (B E : Nat → Nat) (q : Nat) : Nat := sm (fun k => if B k < q ∧ q ≤ E k + P then 1 else 0) n
theorem gnh_over (hE : ∀ k, k < n → B k < E k) (q : Nat) : gnh n P B E q = gng n P B E q + sm (fun k => if E k + P = q then 1 else 0) n := by
  unfold gnh gng
  rw [← sm_add]
  refine sm_congr (fun k hk => ?_)
  have := hE k hk
  by_cases h1 : B k < q ∧ q ≤ E k + P
  · by_cases h2 : E k + P = q
    · rw [if_pos h1, if_neg (by omega), if_pos h2]
    · rw [if_pos h1, if_pos (by omega), if_neg h2]
  · rw [if_neg h1, if_neg (by omega), if_neg (by omega)]
theorem gnh_next (hE : ∀ k, k < n → B k < E k) (q : Nat) : gnh n P B E (q + 1) = gng n P B E q + bgn n B q := by
  unfold gnh gng bgn
  rw [← sm_add]
  refine sm_congr (fun k hk => ?_)
  have := hE k hk
  by_cases h1 : B k < q + 1 ∧ q + 1 ≤ E k + P
  · by_cases h2 : B k = q
    · rw [if_pos h1, if_neg (by omega), if_pos h2]
    · rw [if_pos h1, if_pos (by omega), if_neg h2]
  · rw [if_neg h1, if_neg (by omega), if_neg (by omega)]
theorem gnh_0 : gnh n P B E 0 = 0 := by
  unfold gnh
  have h : sm (fun k => if B k < 0 ∧ 0 ≤ E k + P then 1 else 0) n = sm (fun _ => 0) n := sm_congr (fun k _ => if_neg (by omega))
  rw [h, sm_zero]
theorem z_96' : (96 : Int32) = nI 96 := rfl
theorem s_sweptPairs (hD : DR n P B E F db de df dc dp) {Q : Int32 → Prop} (h : Q (nI (prs n P B E))) : wn_X2_sweptPairs db de dc dp Q := by
  have hn := hD.2.1
  have hE : ∀ k, k < n → B k < E k := fun k hk => (hD.2.2.2.2 k hk).2.2.2.1
  have h96 : ∀ k, k < n → B k < 96 := fun k hk => by obtain ⟨-, -, -, a, b, -⟩ := hD.2.2.2.2 k hk; omega
  rw [← swp_all hn hE h96] at h
  have key : ∀ m q : Nat, q + m = 96 → wl_n_X2_sweptPairs_7 db de dc dp Q (m + 1) (nI (swp n P B E q)) (nI (gnh n P B E q)) (nI q) := by
    intro m
    induction m with
    | zero =>
      intro q hq
      rw [wl_n_X2_sweptPairs_7, z_96', z_le (by omega) (by omega)]
      refine ⟨fun _ => ?_, fun hc => absurd (by omega) hc⟩
      rw [show q = 96 by omega]
      exact h
    | succ m ih =>
      intro q hq
      rw [wl_n_X2_sweptPairs_7, z_96', z_le (by omega) (by omega)]
      refine ⟨fun hc => absurd hc (by omega), fun _ => s_over hD (by omega) (s_begin hD (by omega) (fun v hv => ?_))⟩
      have ih := ih (q + 1) (by omega)
      have hg := gnh_over (P := P) hE q
      have hgl := gng_le n P B E q
      have hbl := bgn_le n B q
      have hx : nI (gnh n P B E q) - nI (sm (fun k => if E k + P = q then 1 else 0) n) = nI (gng n P B E q) := by
        rw [z_sub (by omega), hg, Nat.add_sub_cancel]
      have hy : nI (bgn n B q) * (nI (bgn n B q) - (1 : Int32)) / (2 : Int32) = nI (bgn n B q * (bgn n B q - 1) / 2) := by
        rcases Nat.eq_zero_or_pos (bgn n B q) with h0 | h0
        · rw [h0]; decide
        · have hm : bgn n B q * (bgn n B q - 1) ≤ 14 * 14 := Nat.mul_le_mul (by omega) (by omega)
          rw [z_1, z_sub (by omega), pk_mul, z_2, pk_div (by omega) (by decide) (by decide)]
      rw [hx, hy, pk_mul, nI_add, nI_add] at hv
      rw [hx, nI_add, nI_1 q, ← gnh_next hE]
      subst hv
      exact ih
  have k0 := key 96 0 (by omega)
  rw [gnh_0] at k0
  exact ⟨97, k0⟩
end
