/-! the day: what its methods' predicates come to, over naturals -/
def DR (n P : Nat) (B E F : Nat → Nat) (db de df : Nat → Int32) (dc dp : Int32) : Prop :=
  dc = nI n ∧ n ≤ 14 ∧ dp = nI P ∧ P ≤ 8 ∧ ∀ k, k < n → db k = nI (B k) ∧ de k = nI (E k) ∧ df k = nI (F k) ∧ B k < E k ∧ E k ≤ 96 ∧ 1 ≤ F k ∧ F k ≤ 50
/-- two rehearsals' times clash -/
def cl (P : Nat) (B E : Nat → Nat) (i j : Nat) : Bool := decide (i ≠ j) && (decide (B j < E i + P) && decide (B i < E j + P))
def ct (p : Nat → Bool) : Nat → Nat
  | 0 => 0
  | k + 1 => if p k then ct p k + 1 else ct p k
def an (p : Nat → Bool) : Nat → Bool
  | 0 => true
  | k + 1 => an p k && p k
theorem ct_le (p : Nat → Bool) : ∀ n, ct p n ≤ n
  | 0 => Nat.le_refl 0
  | n + 1 => by have h := ct_le p n; unfold ct; split <;> omega
theorem an_iff (p : Nat → Bool) : ∀ n, an p n = true ↔ ∀ k, k < n → p k = true
  | 0 => by simp [an]
  | n + 1 => by
    unfold an
    rw [Bool.and_eq_true, an_iff p n]
    constructor
    · intro h k hk
      rcases Nat.lt_or_ge k n with h1 | h1
      · exact h.1 k h1
      · rw [show k = n by omega]; exact h.2
    · intro h
      exact ⟨fun k hk => h k (by omega), h n (by omega)⟩
theorem an_false (p : Nat → Bool) {n k : Nat} (hk : k < n) (h : p k = false) : an p n = false := by
  cases ha : an p n
  · rfl
  · rw [(an_iff p n).mp ha k hk] at h; cases h
theorem su_le (S : Nat) (F : Nat → Nat) (M : Nat) : ∀ n, (∀ k, k < n → F k ≤ M) → su S F n ≤ M * n
  | 0, _ => by simp [su]
  | n + 1, h => by
    have ih := su_le S F M n (fun k hk => h k (by omega))
    have h1 := h n (by omega)
    unfold su
    rw [Nat.mul_succ]
    split <;> omega
theorem s_bit {k : Nat} (hk : k < 31) {Q : Int32 → Prop} (h : Q (nI (2 ^ k))) : wn_X5_bit (nI k) Q := by
  unfold wn_X5_bit
  rw [z_bit k hk]
  exact h
theorem s_isIn {s k : Nat} (hs : s < 2 ^ 31) (hk : k < 31) {Q : Int32 → Prop} (h : Q (if s.testBit k = true then 1 else 0)) : wn_X5_isIn (nI s) (nI k) Q := by
  unfold wn_X5_isIn
  refine s_bit hk ?_
  have hle : s &&& 2 ^ k < 2 ^ 31 := Nat.lt_of_le_of_lt Nat.and_le_left hs
  rw [z_and, z_0, z_eq hle (by decide), bit_and]
  cases hb : s.testBit k
  · rw [hb] at h
    exact ⟨fun _ => h, fun hc => absurd rfl hc⟩
  · rw [hb] at h
    exact ⟨fun hc => (by cases hc), fun _ => h⟩
theorem s_cwt {n P : Nat} {B E F : Nat → Nat} {db de df : Nat → Int32} {dc dp : Int32} (hD : DR n P B E F db de df dc dp) {i b e q : Nat} (hi : i < n) (hb : b < 1000) (he : e < 1000) (hq : q < 1000) {Q : Int32 → Prop} (h : Q (if (decide (b < E i + q) && decide (B i < e + q)) = true then 1 else 0)) : wn_X1_clashWithTimes db de (nI i) (nI b) (nI e) (nI q) Q := by
  obtain ⟨-, hn, -, -, hD⟩ := hD
  obtain ⟨h1, h2, -, h4, h5, -⟩ := hD i hi
  have hv : vp_in (nI i) 14 := z_in (by omega) (by decide)
  unfold wn_X1_clashWithTimes
  rw [z_cl (by omega), h1, h2, nI_add, nI_add, z_le (by omega) (by omega), z_le (by omega) (by omega)]
  refine ⟨hv, fun hc => ?_, fun hc => ⟨hv, fun hc2 => ?_, fun hc2 => ?_⟩⟩
  · rw [show decide (b < E i + q) = false from decide_eq_false (by omega)] at h
    exact h
  · rw [show decide (B i < e + q) = false from decide_eq_false (by omega), Bool.and_false] at h
    exact h
  · rw [show decide (B i < e + q) = true from decide_eq_true (by omega), show decide (b < E i + q) = true from decide_eq_true (by omega)] at h
    exact h
theorem s_clash {n P : Nat} {B E F : Nat → Nat} {db de df : Nat → Int32} {dc dp : Int32} (hD : DR n P B E F db de df dc dp) {i j : Nat} (hi : i < n) (hj : j < n) {Q : Int32 → Prop} (h : Q (if cl P B E i j = true then 1 else 0)) : wn_X1_clash db de dp (nI i) (nI j) Q := by
  have hD0 := hD
  obtain ⟨-, hn, hp, hP, hD⟩ := hD
  obtain ⟨h1, h2, -, h4, h5, -⟩ := hD j hj
  have hv : vp_in (nI j) 14 := z_in (by omega) (by decide)
  unfold wn_X1_clash
  rw [z_eq (by omega) (by omega), z_cl (by omega), h1, h2, hp]
  refine ⟨fun hc => ?_, fun hc => ⟨hv, hv, s_cwt hD0 hi (by omega) (by omega) (by omega) ?_⟩⟩
  · rw [show cl P B E i j = false by unfold cl; rw [decide_eq_false (by omega : ¬ i ≠ j)]; rfl] at h
    exact h
  · rw [show cl P B E i j = (decide (B j < E i + P) && decide (B i < E j + P)) by unfold cl; rw [decide_eq_true hc]; rfl] at h
    cases hb : (decide (B j < E i + P) && decide (B i < E j + P))
    · rw [hb] at h
      exact ⟨fun _ => h, fun hc => absurd rfl hc⟩
    · rw [hb] at h
      exact ⟨fun hc => absurd hc (by decide), fun _ => h⟩
theorem s_conflictsWith {n P : Nat} {B E F : Nat → Nat} {db de df : Nat → Int32} {dc dp : Int32} (hD : DR n P B E F db de df dc dp) {i : Nat} (hi : i < n) {Q : Int32 → Prop} (h : Q (nI (mk (cl P B E i) n))) : wn_X1_conflictsWith db de dc dp (nI i) Q := by
  have hn := hD.2.1
  have key : ∀ d k : Nat, k + d = n → wl_n_X1_conflictsWith_4 db de dc dp Q (d + 1) (nI i) (nI (mk (cl P B E i) k)) (nI k) := by
    intro d
    induction d with
    | zero =>
      intro k hk
      rw [wl_n_X1_conflictsWith_4, hD.1, z_le (by omega) (by omega)]
      refine ⟨fun _ => ?_, fun hc => absurd (by omega) hc⟩
      rw [show k = n by omega]; exact h
    | succ d ih =>
      intro k hk
      rw [wl_n_X1_conflictsWith_4, hD.1, z_le (by omega) (by omega)]
      refine ⟨fun hc => absurd hc (by omega), fun _ => s_clash hD hi (by omega) ?_⟩
      have ih := ih (k + 1) (by omega)
      have hlt : mk (cl P B E i) k < 2 ^ k := mk_lt _ _
      unfold mk at ih
      rw [← nI_1, hD.1] at ih
      cases hb : cl P B E i k
      · rw [hb] at ih
        exact ⟨fun _ => ih, fun hc => absurd rfl hc⟩
      · rw [hb] at ih
        refine ⟨fun hc => absurd hc (by decide), fun _ => s_bit (by omega) ?_⟩
        rw [z_or, mk_or]
        exact ih
  exact ⟨n + 1, key n 0 (by omega)⟩
theorem s_fameOfSet {n P : Nat} {B E F : Nat → Nat} {db de df : Nat → Int32} {dc dp : Int32} (hD : DR n P B E F db de df dc dp) {S : Nat} (hS : S < 2 ^ 31) {Q : Int32 → Prop} (h : Q (nI (su S F n))) : wn_X1_fameOfSet df dc (nI S) Q := by
  have hn := hD.2.1
  have key : ∀ d k : Nat, k + d = n → wl_n_X1_fameOfSet_4 df dc Q (d + 1) (nI S) (nI (su S F k)) (nI k) := by
    intro d
    induction d with
    | zero =>
      intro k hk
      rw [wl_n_X1_fameOfSet_4, hD.1, z_le (by omega) (by omega)]
      refine ⟨fun _ => ?_, fun hc => absurd (by omega) hc⟩
      rw [show k = n by omega]; exact h
    | succ d ih =>
      intro k hk
      rw [wl_n_X1_fameOfSet_4, hD.1, z_le (by omega) (by omega)]
      refine ⟨fun hc => absurd hc (by omega), fun _ => s_isIn hS (by omega) ?_⟩
      have ih := ih (k + 1) (by omega)
      unfold su at ih
      rw [← nI_1, hD.1] at ih
      cases hb : S.testBit k
      · rw [hb] at ih
        exact ⟨fun _ => ih, fun hc => absurd rfl hc⟩
      · rw [hb] at ih
        refine ⟨fun hc => absurd hc (by decide), fun _ => ⟨z_in (by omega) (by decide), ?_⟩⟩
        rw [z_cl (by omega), (hD.2.2.2.2 k (by omega)).2.2.1, nI_add]
        exact ih
  exact ⟨n + 1, key n 0 (by omega)⟩
theorem s_quartersOf {n P : Nat} {B E F : Nat → Nat} {db de df : Nat → Int32} {dc dp : Int32} (hD : DR n P B E F db de df dc dp) {i : Nat} (hi : i < n) {Q : Int32 → Prop} (h : Q (nI (E i - B i))) : wn_X1_quartersOf db de (nI i) Q := by
  have hn := hD.2.1
  obtain ⟨h1, h2, -, h4, h5, -⟩ := hD.2.2.2.2 i hi
  have hv : vp_in (nI i) 14 := z_in (by omega) (by decide)
  unfold wn_X1_quartersOf
  rw [z_cl (by omega), h1, h2, z_sub (by omega)]
  exact ⟨hv, hv, h⟩
theorem s_quartersOfSet {n P : Nat} {B E F : Nat → Nat} {db de df : Nat → Int32} {dc dp : Int32} (hD : DR n P B E F db de df dc dp) {S : Nat} (hS : S < 2 ^ 31) {Q : Int32 → Prop} (h : Q (nI (su S (fun k => E k - B k) n))) : wn_X1_quartersOfSet db de dc (nI S) Q := by
  have hn := hD.2.1
  have key : ∀ d k : Nat, k + d = n → wl_n_X1_quartersOfSet_4 db de dc Q (d + 1) (nI S) (nI (su S (fun k => E k - B k) k)) (nI k) := by
    intro d
    induction d with
    | zero =>
      intro k hk
      rw [wl_n_X1_quartersOfSet_4, hD.1, z_le (by omega) (by omega)]
      refine ⟨fun _ => ?_, fun hc => absurd (by omega) hc⟩
      rw [show k = n by omega]; exact h
    | succ d ih =>
      intro k hk
      rw [wl_n_X1_quartersOfSet_4, hD.1, z_le (by omega) (by omega)]
      refine ⟨fun hc => absurd hc (by omega), fun _ => s_isIn hS (by omega) ?_⟩
      have ih := ih (k + 1) (by omega)
      unfold su at ih
      rw [← nI_1, hD.1] at ih
      cases hb : S.testBit k
      · rw [hb] at ih
        exact ⟨fun _ => ih, fun hc => absurd rfl hc⟩
      · rw [hb] at ih
        refine ⟨fun hc => absurd hc (by decide), fun _ => s_quartersOf hD (by omega) ?_⟩
        rw [nI_add]
        exact ih
  exact ⟨n + 1, key n 0 (by omega)⟩
theorem s_beginningAt {n P : Nat} {B E F : Nat → Nat} {db de df : Nat → Int32} {dc dp : Int32} (hD : DR n P B E F db de df dc dp) {q : Nat} (hq : q < 1000) {Q : Int32 → Prop} (h : Q (nI (ct (fun k => decide (B k = q)) n))) : wn_X1_beginningAt db dc (nI q) Q := by
  have hn := hD.2.1
  have key : ∀ d k : Nat, k + d = n → wl_n_X1_beginningAt_4 db dc Q (d + 1) (nI q) (nI (ct (fun k => decide (B k = q)) k)) (nI k) := by
    intro d
    induction d with
    | zero =>
      intro k hk
      rw [wl_n_X1_beginningAt_4, hD.1, z_le (by omega) (by omega)]
      refine ⟨fun _ => ?_, fun hc => absurd (by omega) hc⟩
      rw [show k = n by omega]; exact h
    | succ d ih =>
      intro k hk
      obtain ⟨h1, h2, -, h4, h5, -⟩ := hD.2.2.2.2 k (by omega)
      rw [wl_n_X1_beginningAt_4, hD.1, z_le (by omega) (by omega)]
      refine ⟨fun hc => absurd hc (by omega), fun _ => ⟨z_in (by omega) (by decide), ?_⟩⟩
      have ih := ih (k + 1) (by omega)
      unfold ct at ih
      rw [← nI_1, hD.1] at ih
      rw [z_cl (by omega), h1, z_eq (by omega) (by omega)]
      refine ⟨fun hb => ?_, fun hb => ?_⟩
      · rw [decide_eq_false hb] at ih; exact ih
      · rw [decide_eq_true hb] at ih
        rw [nI_1]
        exact ih
  exact ⟨n + 1, key n 0 (by omega)⟩
theorem s_overAt {n P : Nat} {B E F : Nat → Nat} {db de df : Nat → Int32} {dc dp : Int32} (hD : DR n P B E F db de df dc dp) {q : Nat} (hq : q < 1000) {Q : Int32 → Prop} (h : Q (nI (ct (fun k => decide (E k + P = q)) n))) : wn_X1_overAt de dc dp (nI q) Q := by
  have hn := hD.2.1
  have hP := hD.2.2.2.1
  have key : ∀ d k : Nat, k + d = n → wl_n_X1_overAt_4 de dc dp Q (d + 1) (nI q) (nI (ct (fun k => decide (E k + P = q)) k)) (nI k) := by
    intro d
    induction d with
    | zero =>
      intro k hk
      rw [wl_n_X1_overAt_4, hD.1, z_le (by omega) (by omega)]
      refine ⟨fun _ => ?_, fun hc => absurd (by omega) hc⟩
      rw [show k = n by omega]; exact h
    | succ d ih =>
      intro k hk
      obtain ⟨h1, h2, -, h4, h5, -⟩ := hD.2.2.2.2 k (by omega)
      rw [wl_n_X1_overAt_4, hD.1, z_le (by omega) (by omega)]
      refine ⟨fun hc => absurd hc (by omega), fun _ => ⟨z_in (by omega) (by decide), ?_⟩⟩
      have ih := ih (k + 1) (by omega)
      unfold ct at ih
      rw [← nI_1, hD.1] at ih
      rw [z_cl (by omega), h2, hD.2.2.1, nI_add, z_eq (by omega) (by omega)]
      rw [hD.2.2.1] at ih
      refine ⟨fun hb => ?_, fun hb => ?_⟩
      · rw [decide_eq_false hb] at ih; exact ih
      · rw [decide_eq_true hb] at ih
        rw [nI_1]
        exact ih
  exact ⟨n + 1, key n 0 (by omega)⟩
theorem s_all {n : Nat} (hn : n ≤ 14) {Q : Int32 → Prop} (h : Q (nI (2 ^ n - 1))) : wn_X1_all (nI n) Q := by
  unfold wn_X1_all
  refine s_bit (by omega) ?_
  have h1 : 0 < 2 ^ n := Nat.two_pow_pos n
  rw [z_1, z_sub (by omega)]
  exact h
