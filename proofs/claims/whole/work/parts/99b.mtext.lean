/-! the reference reads -/
theorem m_take0 {zt a : Int32} {Q : Int32 → Int32 → Prop} (h : Q zt 0) : wn_X6_take zt 0 a Q := by
  unfold wn_X6_take wj_n_X6_take_16 wj_n_X6_take_17 wj_n_X6_take_37
  exact ⟨fun _ => ⟨fun _ => by rw [Int32.add_zero]; exact h, fun hx => absurd rfl hx⟩, fun hx => absurd rfl hx⟩
theorem m_takeF {zt : Int32} {Q : Int32 → Int32 → Prop} (h : Q zt 0) : wn_X6_take zt 1 0 Q := by
  unfold wn_X6_take wj_n_X6_take_16 wj_n_X6_take_17 wj_n_X6_take_37
  exact ⟨fun hx => absurd hx (by decide), fun _ => ⟨fun _ => ⟨fun _ => by rw [Int32.add_zero]; exact h, fun hx => absurd rfl hx⟩, fun hx => absurd rfl hx⟩⟩
theorem m_takeT {zt : Int32} {Q : Int32 → Int32 → Prop} (h : Q (zt + 1) 1) : wn_X6_take zt 1 1 Q := by
  unfold wn_X6_take wj_n_X6_take_17 wj_n_X6_take_37
  exact ⟨fun hx => absurd hx (by decide), fun _ => ⟨fun hx => absurd hx (by decide), fun _ => ⟨fun hx => absurd hx (by decide), fun _ => h⟩⟩⟩
section
variable {n : Nat} {t : Nat → Nat} {yx : Nat → Int32} {zl : Int32}
/-- the character at p, -1 behind the last -/
def chT (n : Nat) (t : Nat → Nat) (p : Nat) : Int32 := if p < n then nI (t p) else -1
theorem m_here (ht : TC n t yx zl) {p : Nat} (hp : p ≤ n) {Q : Int32 → Prop} (h : Q (chT n t p)) : wn_X6_here yx zl (nI p) Q := by
  obtain ⟨rfl, h60, hc⟩ := ht
  unfold chT at h
  unfold wn_X6_here
  rw [z_le (by omega) (by omega), z_cl (n := p) (by omega)]
  refine ⟨fun hx => ?_, fun hx => ⟨z_in (by omega) (by decide), ?_⟩⟩
  · rw [if_neg (by omega)] at h; exact h
  · rw [if_pos (by omega)] at h; rw [hc p (by omega)]; exact h
theorem chT_eq (hok : TOK n t) {p c : Nat} (hc : c < 1000) : (chT n t p = nI c) = (p < n ∧ t p = c) := by
  unfold chT
  by_cases hp : p < n
  · have := hok.2 p hp
    rw [if_pos hp, z_eq (by omega) (by omega)]
    simp [hp]
  · rw [if_neg hp]
    apply propext
    exact ⟨fun h => absurd h.symm (nI_neg1 (by omega)), fun h => absurd h.1 hp⟩
theorem chT_sub (hok : TOK n t) (p : Nat) : ((chT n t p) - (48 : Int32)).toInt64.toInt = if p < n then (t p : Int) - 48 else -49 := by
  rw [Int32.toInt_toInt64]
  unfold chT
  by_cases hp : p < n
  · have := hok.2 p hp
    rw [if_pos hp, if_pos hp, z_48, pk_sub_toInt (by omega) (by decide)]
    rfl
  · rw [if_neg hp, if_neg hp]
    decide
/-- no digit more is taken at q -/
def noD (n : Nat) (t : Nat → Nat) (s : PS) (q : Nat) : Prop := q < n → 48 ≤ t q → t q ≤ 57 → stp s (t q) = none
theorem l64_9 : (9 : Int64).toInt = 9 := by decide
theorem m_number_bad (ht : TC n t yx zl) {p : Nat} (hp : p ≤ n) {a1 a2 : Int32} {Q : Int32 → Int32 → Int32 → Prop} (h : ∀ v, Q v (nI p) 0) : wn_X6_number yx zl (nI p) 0 a1 a2 Q := by
  unfold wn_X6_number
  refine m_here ht hp ⟨fun _ => ?_, fun hx => absurd rfl hx⟩
  unfold wj_n_X6_number_33 wj_n_X6_number_34
  refine m_take0 ⟨fun _ => ⟨1, ?_⟩, fun hx => absurd rfl hx⟩
  rw [wl_n_X6_number_55]
  exact ⟨fun _ => h _, fun hx => absurd rfl hx⟩
theorem m_digits (ht : TC n t yx zl) (hok : TOK n t) {f : Nat} {N : Nat → Nat} {a1 : Int32} {Q : Int32 → Int32 → Int32 → Prop}
    (h1 : ∀ v q, runT t q = some (f, some v, N) → q ≤ n → noD n t (f, some v, N) q → Q (nI v) (nI q) 1) : ∀ (m q v : Nat), q + m = n → v ≠ 0 → runT t q = some (f, some v, N) → wl_n_X6_number_55 yx zl Q (m + 2) (nI q) 1 a1 (nI (gG (f % 3))) (nI v) 1 := by
  have hgg := gG_le (f % 3)
  intro m
  induction m with
  | zero =>
    intro q v hq hv hr
    have hvb := ((runT_ok t q _ hr).1.1 v rfl).1
    have hvb : v ≤ gG (f % 3) := hvb
    rw [wl_n_X6_number_55]
    refine ⟨fun hx => absurd hx (by decide), fun _ => m_here ht (by omega) (m_in ?_)⟩
    rw [chT_sub hok, if_neg (by omega : ¬ q < n), l64_0, l64_9, if_neg (by omega)]
    refine ⟨fun _ => ?_, fun hx => absurd rfl hx⟩
    unfold wj_n_X6_number_97 wj_n_X6_number_98
    refine ⟨fun _ => ?_, fun hx => absurd rfl hx⟩
    unfold wj_n_X6_number_116 wj_n_X6_number_132
    refine ⟨fun _ => ?_, fun hx => absurd rfl hx⟩
    show wl_n_X6_number_55 yx zl Q (0 + 1) (nI q + 0) 1 a1 (nI (gG (f % 3))) (nI v) 0
    rw [wl_n_X6_number_55, Int32.add_zero]
    exact ⟨fun _ => h1 v q hr (by omega) (fun hx => absurd hx (by omega)), fun hx => absurd rfl hx⟩
  | succ m ih =>
    intro q v hq hv hr
    have hvb := ((runT_ok t q _ hr).1.1 v rfl).1
    have hvb : v ≤ gG (f % 3) := hvb
    have hc := hok.2 q (by omega)
    have stop : noD n t (f, some v, N) q → wj_n_X6_number_97 yx zl Q (fun z0 z1 z2 z3 z4 z5 => wl_n_X6_number_55 yx zl Q (m + 2) z0 z1 z2 z3 z4 z5) (nI q) 1 a1 (nI (gG (f % 3))) (nI v) 1 (chT n t q - (48 : Int32)) := by
      intro hno
      unfold wj_n_X6_number_97 wj_n_X6_number_98
      refine ⟨fun _ => ?_, fun hx => absurd rfl hx⟩
      unfold wj_n_X6_number_116 wj_n_X6_number_132
      refine ⟨fun _ => ?_, fun hx => absurd rfl hx⟩
      show wl_n_X6_number_55 yx zl Q (m + 1 + 1) (nI q + 0) 1 a1 (nI (gG (f % 3))) (nI v) 0
      rw [wl_n_X6_number_55, Int32.add_zero]
      exact ⟨fun _ => h1 v q hr (by omega) hno, fun hx => absurd rfl hx⟩
    rw [wl_n_X6_number_55]
    refine ⟨fun hx => absurd hx (by decide), fun _ => m_here ht (by omega) (m_in ?_)⟩
    rw [chT_sub hok, if_pos (by omega : q < n), l64_0, l64_9]
    by_cases hd : 48 ≤ t q ∧ t q ≤ 57
    · rw [if_pos (by omega)]
      refine ⟨fun hx => absurd hx (by decide), fun _ => ?_⟩
      have e1 : chT n t q - (48 : Int32) = nI (t q - 48) := by
        unfold chT
        rw [if_pos (by omega), z_48, z_sub (by omega)]
      have e5 : ((10 : Int32) * nI v) + nI (t q - 48) = nI (10 * v + (t q - 48)) := by rw [z_10, pk_mul, nI_add]
      rw [e1] at stop ⊢
      rw [e5, z_lt (by omega) (by omega)]
      refine ⟨fun hlt => stop (fun _ _ _ => ?_), fun hlt => ?_⟩
      · unfold stp; rw [if_pos hd]; exact if_neg (fun hh => by have := hh.2; dsimp only at this; omega)
      · unfold wj_n_X6_number_98
        refine ⟨fun hx => absurd hx (by decide), fun _ => ?_⟩
        unfold wj_n_X6_number_116 wj_n_X6_number_132
        refine ⟨fun hx => absurd hx (by decide), fun _ => ?_⟩
        show wl_n_X6_number_55 yx zl Q (m + 2) (nI q + 1) 1 a1 (nI (gG (f % 3))) (((10 : Int32) * nI v) + nI (t q - 48)) 1
        rw [e5, nI_1]
        refine ih (q + 1) (10 * v + (t q - 48)) (by omega) (by omega) ?_
        rw [runT_s hr]
        unfold stp; rw [if_pos hd]; exact if_pos ⟨hv, by show 10 * v + (t q - 48) ≤ gG (f % 3); omega⟩
    · rw [if_neg (by omega)]
      exact ⟨fun _ => stop (fun _ h4 h5 => absurd ⟨h4, h5⟩ hd), fun hx => absurd rfl hx⟩
theorem m_number (ht : TC n t yx zl) (hok : TOK n t) {p f from1 : Nat} {N : Nat → Nat} (hp : p ≤ n) (hr : runT t p = some (f, none, N)) (hfrom : from1 = if f % 3 = 0 then 0 else 1) {Q : Int32 → Int32 → Int32 → Prop}
    (h1 : ∀ v q, runT t q = some (f, some v, N) → q ≤ n → noD n t (f, some v, N) q → Q (nI v) (nI q) 1)
    (h0 : flO t n p → ∀ v, Q v (nI p) 0) : wn_X6_number yx zl (nI p) 1 (nI from1) (nI (gG (f % 3))) Q := by
  have hgg := gG_ge (f % 3)
  have hfr : from1 ≤ 1 := by rw [hfrom]; split <;> omega
  have bad : flO t n p → wj_n_X6_number_33 yx zl Q (nI p) 1 (nI from1) (nI (gG (f % 3))) (chT n t p - (48 : Int32)) := by
    intro hf
    unfold wj_n_X6_number_33 wj_n_X6_number_34
    refine m_takeF ⟨fun _ => ⟨1, ?_⟩, fun hx => absurd rfl hx⟩
    rw [wl_n_X6_number_55]
    exact ⟨fun _ => h0 hf _, fun hx => absurd rfl hx⟩
  have e64 : (nI from1).toInt64.toInt = from1 := by rw [Int32.toInt_toInt64, nI_toInt (by omega)]
  unfold wn_X6_number
  refine m_here ht hp ⟨fun hx => absurd hx (by decide), fun _ => m_in ?_⟩
  rw [chT_sub hok, e64, l64_9]
  by_cases hpn : p < n
  · rw [if_pos hpn]
    by_cases hd : from1 + 48 ≤ t p ∧ t p ≤ 57
    · rw [if_pos (by omega)]
      refine ⟨fun hx => absurd hx (by decide), fun _ => ?_⟩
      have hd2 : 48 ≤ t p ∧ t p ≤ 57 := by omega
      have hr1 : runT t (p + 1) = some (f, some (t p - 48), N) := by
        rw [runT_s hr]
        unfold stp
        rw [if_pos hd2]
        refine if_pos ?_
        by_cases hk : f % 3 = 0
        · exact Or.inr hk
        · rw [if_neg hk] at hfrom
          exact Or.inl (by omega)
      have e1 : chT n t p - (48 : Int32) = nI (t p - 48) := by
        unfold chT
        rw [if_pos hpn, z_48, z_sub (by omega)]
      have e0 : (nI (t p - 48) ≤ 0) = (t p - 48 ≤ 0) := by rw [z_0, z_le (by omega) (by decide)]
      unfold wj_n_X6_number_34
      refine m_takeT ⟨fun hx => absurd hx (by decide), fun _ => ?_⟩
      rw [e1, e0, nI_1]
      refine ⟨fun hz => ⟨1, ?_⟩, fun hz => ⟨n - (p + 1) + 2, m_digits ht hok h1 (n - (p + 1)) (p + 1) (t p - 48) (by omega) (by omega) hr1⟩⟩
      rw [wl_n_X6_number_55]
      refine ⟨fun _ => h1 _ _ hr1 (by omega) (fun _ h4 h5 => ?_), fun hx => absurd rfl hx⟩
      unfold stp; rw [if_pos ⟨h4, h5⟩]; exact if_neg (fun hh => hh.1 (by show t p - 48 = 0; omega))
    · rw [if_neg (by omega)]
      refine ⟨fun _ => bad ⟨_, hr, Or.inl ⟨hpn, ?_⟩⟩, fun hx => absurd rfl hx⟩
      unfold stp
      by_cases hd2 : 48 ≤ t p ∧ t p ≤ 57
      · rw [if_pos hd2]
        refine if_neg (fun hh => ?_)
        have hh : 0 < t p - 48 ∨ f % 3 = 0 := hh
        by_cases hk : f % 3 = 0
        · rw [if_pos hk] at hfrom; omega
        · rw [if_neg hk] at hfrom; omega
      · rw [if_neg hd2]
  · rw [if_neg hpn, if_neg (by omega)]
    exact ⟨fun _ => bad ⟨_, hr, Or.inr ⟨by omega, Or.inl rfl⟩⟩, fun hx => absurd rfl hx⟩
/-- behind a number its sign, or reading fails -/
theorem m_sign {p f v c : Nat} {N : Nat → Nat} (hok : TOK n t) (hp : p ≤ n) (hr : runT t p = some (f, some v, N)) (hno : noD n t (f, some v, N) p) (hc : gS (f % 3) = c) (hf : f % 3 ≠ 2) :
    (chT n t p = nI c → p < n ∧ runT t (p + 1) = some (f + 1, none, upN N f v)) ∧ (¬ chT n t p = nI c → flO t n p) := by
  have hcs := gS_le (f % 3)
  have hc3 : ¬ (48 ≤ c ∧ c ≤ 57) := by
    rw [← hc]; unfold gS
    split <;> (try split) <;> omega
  rw [chT_eq hok (by omega)]
  constructor
  · rintro ⟨h1, h2⟩
    refine ⟨h1, ?_⟩
    rw [runT_s hr]
    unfold stp
    rw [h2, if_neg hc3]
    exact if_pos hc.symm
  · intro h1
    by_cases hpn : p < n
    · refine ⟨_, hr, Or.inl ⟨hpn, ?_⟩⟩
      by_cases hd : 48 ≤ t p ∧ t p ≤ 57
      · exact hno hpn hd.1 hd.2
      · unfold stp
        rw [if_neg hd]
        exact if_neg (fun hh => h1 ⟨hpn, by have hh : t p = gS (f % 3) := hh; omega⟩)
    · exact ⟨_, hr, Or.inr ⟨by omega, Or.inr hf⟩⟩
theorem m_49_bad (ht : TC n t yx zl) {p : Nat} (hp : p ≤ n) {yt : Nat → Int32} {zr zm x1 x2 y1 : Int32} {Q : (Nat → Int32) → Int32 → Int32 → Int32 → Int32 → Prop} (h : Q yt (nI p) 0 zr zm) : wj_n_X6_readPart_49 yx zl Q yt (nI p) 0 zr zm x1 x2 y1 := by
  unfold wj_n_X6_readPart_49
  exact m_take0 (m_number_bad ht hp (fun v => ⟨fun _ => h, fun hx => absurd rfl hx⟩))
theorem m_23_bad (ht : TC n t yx zl) {p : Nat} (hp : p ≤ n) {yt : Nat → Int32} {zr zm x1 y1 : Int32} {Q : (Nat → Int32) → Int32 → Int32 → Int32 → Int32 → Prop} (h : Q yt (nI p) 0 zr zm) : wj_n_X6_readPart_23 yx zl Q yt (nI p) 0 zr zm x1 y1 := by
  unfold wj_n_X6_readPart_23
  exact m_take0 (m_number_bad ht hp (fun v => m_here ht hp ⟨fun _ => m_49_bad ht hp h, fun _ => m_49_bad ht hp h⟩))
/-- where a part has been read to its end -/
def gdP (d : DV) (n : Nat) (t : Nat → Nat) (q m : Nat) (M : Nat → Nat) (yt : Nat → Int32) (zr zm : Int32) : Prop :=
  (∃ f v N, runT t q = some (f, some v, N) ∧ f + 1 = 3 * m ∧ M = upN N f v ∧ noD n t (f, some v, N) q) ∧ q ≤ n ∧ DM (addM d M (min m (14 - vn d))) yt ∧ ((zr = 1 ∧ rngO M m) ∨ (zr = 0 ∧ ¬ rngO M m)) ∧ zm = nI m
theorem m_readPart {d : DV} (hn : vn d ≤ 14) (ht : TC n t yx zl) (hok : TOK n t) {p m : Nat} {N : Nat → Nat} {yt : Nat → Int32} {zr zm : Int32} (hp : p ≤ n) (hr : runT t p = some (3 * m, none, N)) (hy : DM (addM d N (min m (14 - vn d))) yt) (hz : (zr = 1 ∧ rngO N m) ∨ (zr = 0 ∧ ¬ rngO N m)) (hzm : zm = nI m) {Q : (Nat → Int32) → Int32 → Int32 → Int32 → Int32 → Prop}
    (h1 : ∀ q M yt' zr' zm', p < q → gdP d n t q (m + 1) M yt' zr' zm' → Q yt' (nI q) 1 zr' zm')
    (h0 : ∀ q, flO t n q → q ≤ n → Q yt (nI q) 0 zr zm) : wn_X6_readPart yt yx zl (nI p) 1 zr zm Q := by
  have h60 := ht.2.1
  have f0 : 3 * m % 3 = 0 := by omega
  have f1 : (3 * m + 1) % 3 = 1 := by omega
  have f2 : (3 * m + 1 + 1) % 3 = 2 := by omega
  unfold wn_X6_readPart
  have n1 := m_number ht hok hp hr (from1 := 0) (by rw [if_pos f0])
    (Q := fun (r1 : Int32) (zt_2 : Int32) (zg_3 : Int32) => (wn_X6_here yx zl zt_2 (fun (r4 : Int32) => ((¬ r4 = (45 : Int32) → (wj_n_X6_readPart_23 yx zl Q yt zt_2 zg_3 zr zm r1 (0 : Int32))) ∧ (r4 = (45 : Int32) → (wj_n_X6_readPart_23 yx zl Q yt zt_2 zg_3 zr zm r1 (1 : Int32)))))))
  rw [f0] at n1
  refine n1 (fun v1 q1 hr1 hq1 hno1 => m_here ht hq1 ?_) (fun hf v => m_here ht hp ⟨fun _ => m_23_bad ht hp (h0 p hf hp), fun _ => m_23_bad ht hp (h0 p hf hp)⟩)
  have s1 := m_sign hok hq1 hr1 hno1 (c := 45) (by rw [f0]; rfl) (by omega)
  refine ⟨fun hx => ?_, fun hx => ?_⟩
  · have hf := s1.2 hx
    unfold wj_n_X6_readPart_23
    exact m_takeF (m_number_bad ht hq1 (fun v => m_here ht hq1 ⟨fun _ => m_49_bad ht hq1 (h0 q1 hf hq1), fun _ => m_49_bad ht hq1 (h0 q1 hf hq1)⟩))
  obtain ⟨hq1n, hr1'⟩ := s1.1 hx
  unfold wj_n_X6_readPart_23
  refine m_takeT ?_
  rw [nI_1]
  have n2 := m_number ht hok (p := q1 + 1) (by omega) hr1' (from1 := 1) (by rw [if_neg (by omega)])
    (Q := fun (r8 : Int32) (zt_9 : Int32) (zg_10 : Int32) => (wn_X6_here yx zl zt_9 (fun (r11 : Int32) => ((¬ r11 = (42 : Int32) → (wj_n_X6_readPart_49 yx zl Q yt zt_9 zg_10 zr zm (nI v1) r8 (0 : Int32))) ∧ (r11 = (42 : Int32) → (wj_n_X6_readPart_49 yx zl Q yt zt_9 zg_10 zr zm (nI v1) r8 (1 : Int32)))))))
  rw [f1] at n2
  refine n2 (fun v2 q2 hr2 hq2 hno2 => m_here ht hq2 ?_) (fun hf v => m_here ht (by omega) ⟨fun _ => m_49_bad ht (by omega) (h0 _ hf (by omega)), fun _ => m_49_bad ht (by omega) (h0 _ hf (by omega))⟩)
  have s2 := m_sign hok hq2 hr2 hno2 (c := 42) (by rw [f1]; rfl) (by omega)
  refine ⟨fun hx => ?_, fun hx => ?_⟩
  · have hf := s2.2 hx
    unfold wj_n_X6_readPart_49
    exact m_takeF (m_number_bad ht hq2 (fun v => ⟨fun _ => h0 q2 hf hq2, fun hx => absurd rfl hx⟩))
  obtain ⟨hq2n, hr2'⟩ := s2.1 hx
  unfold wj_n_X6_readPart_49
  refine m_takeT ?_
  rw [nI_1]
  have n3 := m_number ht hok (p := q2 + 1) (by omega) hr2' (from1 := 1) (by rw [if_neg (by omega)])
    (Q := fun (r15 : Int32) (zt_16 : Int32) (zg_17 : Int32) => ((zg_17 = 0 → (Q yt zt_16 zg_17 zr zm)) ∧ (¬ zg_17 = 0 → ((zr = 0 → (wj_n_X6_readPart_84 yx zl Q yt zt_16 zg_17 zr zm (nI v1) (nI v2) r15)) ∧ (¬ zr = 0 → ((nI v2 ≤ nI v1 → (wj_n_X6_readPart_84 yx zl Q yt zt_16 zg_17 zr zm (nI v1) (nI v2) r15)) ∧ (¬ nI v2 ≤ nI v1 → (wj_n_X6_readPart_85 yx zl Q yt zt_16 zg_17 zr zm (nI v1) (nI v2) r15 (1 : Int32)))))))))
  rw [f2] at n3
  refine n3 (fun v3 q3 hr3 hq3 hno3 => ⟨fun hx => absurd hx (by decide), fun _ => ?_⟩) (fun hf v => ⟨fun _ => h0 _ hf (by omega), fun hx => absurd rfl hx⟩)
  obtain ⟨M, hM⟩ : ∃ M : Nat → Nat, M = upN (upN (upN N (3 * m) v1) (3 * m + 1) v2) (3 * m + 1 + 1) v3 := ⟨_, rfl⟩
  have M0 : M (3 * m) = v1 := by rw [hM, upN_n (by omega), upN_n (by omega), upN_s]
  have M1 : M (3 * m + 1) = v2 := by rw [hM, upN_n (by omega), upN_s]
  have M2 : M (3 * m + 2) = v3 := by rw [hM]; exact upN_s
  have Mlo : ∀ j, j < 3 * m → M j = N j := fun j hj => by rw [hM, upN_n (by omega), upN_n (by omega), upN_n (by omega)]
  have k1 := ((runT_ok t q1 _ hr1).1.1 v1 rfl).1
  have k2 := ((runT_ok t q2 _ hr2).1.1 v2 rfl).1
  have k3 := ((runT_ok t q3 _ hr3).1.1 v3 rfl).1
  have k1 : v1 ≤ 96 := Nat.le_trans k1 (gG_le _)
  have k2 : v2 ≤ 96 := Nat.le_trans k2 (gG_le _)
  have k3 : v3 ≤ 96 := Nat.le_trans k3 (gG_le _)
  -- a later state of reading is at a later place
  have fle : ∀ (a b : Nat) (s s' : PS), runT t a = some s → runT t (a + b) = some s' → s.1 ≤ s'.1 := by
    intro a b
    induction b with
    | zero => intro s s' e1 e2; rw [Nat.add_zero, e1] at e2; cases e2; exact Nat.le_refl _
    | succ b ih =>
      intro s s' e1 e2
      cases hb : runT t (a + b) with
      | none =>
        have := runT_none hb 1
        rw [show a + b + 1 = a + (b + 1) by omega, e2] at this
        cases this
      | some s2 =>
        have h5 := ih s s2 e1 hb
        rw [show a + (b + 1) = a + b + 1 by omega, runT_s hb] at e2
        have h6 : s2.1 ≤ s'.1 := by
          unfold stp at e2
          obtain ⟨f, o, N'⟩ := s2
          cases o with
          | none =>
            dsimp only at e2
            split at e2
            · split at e2
              · cases e2; exact Nat.le_refl _
              · cases e2
            · cases e2
          | some v =>
            dsimp only at e2
            split at e2
            · split at e2
              · cases e2; exact Nat.le_refl _
              · cases e2
            · split at e2
              · cases e2; exact Nat.le_succ _
              · cases e2
        omega
  have hpq : p < q3 := by
    rcases Nat.lt_or_ge p q3 with h | h
    · exact h
    · have := fle q3 (p - q3) _ _ hr3 (by rw [show q3 + (p - q3) = p by omega]; exact hr)
      have this : 3 * m + 1 + 1 ≤ 3 * m := this
      omega
  have last : ∀ (y1 : Int32), ((y1 = 1 ∧ rngO M (m + 1)) ∨ (y1 = 0 ∧ ¬ rngO M (m + 1))) → wj_n_X6_readPart_85 yx zl Q yt (nI q3) 1 zr zm (nI v1) (nI v2) (nI v3) y1 := by
    intro y1 hy1
    have hst : ∀ yt', DM (addM d M (min (m + 1) (14 - vn d))) yt' → Q yt' (nI q3) 1 y1 (zm + (1 : Int32)) := by
      intro yt' hyt
      rw [hzm, nI_1]
      exact h1 q3 M yt' y1 _ hpq ⟨⟨_, _, _, hr3, by omega, hM, hno3⟩, hq3, hyt, hy1, rfl⟩
    have hvn := addM_n d N (min m (14 - vn d))
    unfold wj_n_X6_readPart_85
    rw [z44, hy.2.2.2, hvn, z_14, z_le (by decide) (by omega)]
    refine ⟨zi44, fun hle => hst yt ?_, fun hle => m_goAdd (by omega) hy (fun y' hy' => hst y' ?_)⟩
    · rw [show min (m + 1) (14 - vn d) = min m (14 - vn d) by omega, addM_congr (N := N) (fun j hj => Mlo j (by omega))]
      exact hy
    · have e : min m (14 - vn d) = m := by omega
      have e2 : min (m + 1) (14 - vn d) = m + 1 := by omega
      rw [e] at hy'
      rw [e2]
      show DM (addD (addM d M m) (M (3 * m)) (M (3 * m + 1)) (M (3 * m + 2))) y'
      rw [M0, M1, M2, addM_congr (N := N) (fun j hj => Mlo j hj)]
      exact hy'
  have rng : rngO M (m + 1) ↔ rngO N m ∧ v1 < v2 := by
    constructor
    · intro h
      refine ⟨fun i hi => ?_, ?_⟩
      · have := h i (by omega)
        rwa [Mlo _ (by omega), Mlo _ (by omega)] at this
      · have := h m (by omega)
        rwa [M0, M1] at this
    · rintro ⟨h2, h3⟩ i hi
      by_cases him : i = m
      · subst him; rw [M0, M1]; exact h3
      · rw [Mlo _ (by omega), Mlo _ (by omega)]; exact h2 i (by omega)
  rcases hz with ⟨rfl, hz2⟩ | ⟨rfl, hz2⟩
  · rw [z_le (by omega) (by omega)]
    refine ⟨fun hx => absurd hx (by decide), fun _ => ⟨fun hle => ?_, fun hle => last 1 (Or.inl ⟨rfl, rng.mpr ⟨hz2, by omega⟩⟩)⟩⟩
    exact last 0 (Or.inr ⟨rfl, fun hh => by have := (rng.mp hh).2; omega⟩)
  · exact ⟨fun _ => last 0 (Or.inr ⟨rfl, fun hh => hz2 (rng.mp hh).1⟩), fun hx => absurd rfl hx⟩
theorem m_readAll {d : DV} (hn : vn d ≤ 14) {yn : Nat → Int32} (hm : DM d yn) (ht : TC n t yx zl) (hok : TOK n t) {yt : Nat → Int32} {zt zg zr zm : Int32} {Q : (Nat → Int32) → Int32 → Int32 → Int32 → Int32 → Prop}
    (h1 : ∀ m M yt' zt' zr' zm', tlO t n m M → DM (addM d M (min m (14 - vn d))) yt' → ((zr' = 1 ∧ rngO M m) ∨ (zr' = 0 ∧ ¬ rngO M m)) → zm' = nI m → Q yt' zt' 1 zr' zm')
    (h0 : ∀ q yt' zr' zm', flO t n q → Q yt' (nI q) 0 zr' zm') : wn_X6_readAll yn yt yx zl zt zg zr zm Q := by
  have h60 := ht.2.1
  have hzl := ht.1
  unfold wn_X6_readAll
  refine m_copyDay hn hm (fun yt1 hy1 => ?_)
  have bad : ∀ (fu q : Nat) (yt : Nat → Int32) (zr zm : Int32), flO t n q → wl_n_X6_readAll_35 yn yx zl Q (fu + 1) yt (nI q) 0 zr zm := by
    intro fu q yt zr zm hf
    rw [wl_n_X6_readAll_35]
    exact ⟨fun _ => h0 q _ _ _ hf, fun hx => absurd rfl hx⟩
  have key : ∀ (k q m : Nat) (M : Nat → Nat) (yt : Nat → Int32) (zr zm : Int32), n ≤ q + k → gdP d n t q m M yt zr zm → wl_n_X6_readAll_35 yn yx zl Q (k + 2) yt (nI q) 1 zr zm := by
    intro k
    induction k with
    | zero =>
      intro q m M yt zr zm hk hg
      obtain ⟨⟨f, v, N, g1, g2, g3, g4⟩, g5, g6, g7, g8⟩ := hg
      have e : q = n := by omega
      rw [wl_n_X6_readAll_35, hzl, z_le (by omega) (by omega)]
      refine ⟨fun hx => absurd hx (by decide), fun _ => ⟨fun _ => h1 m M _ _ _ _ ⟨f, v, N, by rw [← e]; exact g1, g2, g3⟩ g6 g7 g8, fun hx => absurd (by omega) hx⟩⟩
    | succ k ih =>
      intro q m M yt zr zm hk hg
      obtain ⟨⟨f, v, N, g1, g2, g3, g4⟩, g5, g6, g7, g8⟩ := hg
      rw [wl_n_X6_readAll_35, hzl, z_le (by omega) (by omega), ← hzl]
      refine ⟨fun hx => absurd hx (by decide), fun _ => ⟨fun hle => h1 m M _ _ _ _ ⟨f, v, N, by rw [show n = q by omega]; exact g1, g2, g3⟩ g6 g7 g8, fun hle => m_here ht g5 ?_⟩⟩
      have hfm : f % 3 = 2 := by omega
      refine ⟨fun hx => ?_, fun hx => ?_⟩
      · unfold wj_n_X6_readAll_68
        refine m_takeF ⟨fun _ => bad (k + 1) q _ _ _ ⟨_, g1, Or.inl ⟨by omega, ?_⟩⟩, fun hx => absurd rfl hx⟩
        by_cases hd : 48 ≤ t q ∧ t q ≤ 57
        · exact g4 (by omega) hd.1 hd.2
        · unfold stp
          rw [if_neg hd]
          refine if_neg (fun hh => hx ?_)
          have hh : t q = gS (f % 3) := hh
          rw [hfm] at hh
          rw [show (59 : Int32) = nI 59 from rfl, chT_eq hok (by decide)]
          exact ⟨by omega, hh⟩
      · rw [show (59 : Int32) = nI 59 from rfl, chT_eq hok (by decide)] at hx
        unfold wj_n_X6_readAll_68
        refine m_takeT ⟨fun hx => absurd hx (by decide), fun _ => ?_⟩
        rw [nI_1]
        have hr : runT t (q + 1) = some (3 * m, none, M) := by
          rw [runT_s g1]
          unfold stp
          rw [hx.2, if_neg (by omega)]
          rw [← g2, g3]
          exact if_pos (by show 59 = gS (f % 3); rw [hfm]; rfl)
        refine m_readPart hn ht hok (by omega) hr g6 g7 g8 (fun q' M' yt' zr' zm' hlt hg' => ?_) (fun q' hf hq' => bad (k + 1) q' _ _ _ hf)
        exact ih q' (m + 1) M' yt' zr' zm' (by omega) hg'
  refine m_readPart (m := 0) hn ht hok (Nat.zero_le n) rfl (by rw [Nat.zero_min]; exact hy1) (Or.inl ⟨rfl, fun i hi => absurd hi (by omega)⟩) rfl (fun q M yt' zr' zm' _ hg => ⟨n + 2, ?_⟩) (fun q hf hq => ⟨1, bad 0 q _ _ _ hf⟩)
  exact key n q 1 M yt' zr' zm' (by omega) hg
end
section
variable {S : List DV} {d : DV} {yn yb yx : Nat → Int32} {zs zl : Int32} {n : Nat} {t : Nat → Nat}
theorem M_firstError (hn : vn d ≤ 14) (hm : DM d yn) (ht : TC n t yx zl) (hok : TOK n t) {yt : Nat → Int32} {za zt zg zr zm : Int32} {Q : Int32 → (Nat → Int32) → Int32 → Int32 → Int32 → Int32 → Int32 → Prop}
    (h : ∀ q yt' zt' zg' zr' zm', stpAt t n q → Q (nI q) yt' 0 zt' zg' zr' zm') : wn_X6_firstError yn yt yx za zl zt zg zr zm Q := by
  unfold wn_X6_firstError
  refine m_readAll hn hm ht hok (fun m M yt' zt' zr' zm' htl _ _ _ => ⟨fun hx => absurd hx (by decide), fun _ => ?_⟩) (fun q yt' zr' zm' hf => ⟨fun _ => h q _ _ _ _ _ (flO_stp hf), fun hx => absurd rfl hx⟩)
  rw [ht.1]
  exact h n _ _ _ _ _ (tlO_stp htl)
theorem M_read (ok : DOK d) (hS : MS S yb zs) (hm : DM d yn) (ht : TC n t yx zl) (hok : TOK n t) {yt : Nat → Int32} {za zt zg zr zm : Int32} {Q : Int32 → (Nat → Int32) → (Nat → Int32) → (Nat → Int32) → Int32 → Int32 → Int32 → Int32 → Int32 → Int32 → Int32 → Prop}
    (hq : ∀ m M, tlO t n m M → rngO M m → vn d + m ≤ 14 → ∀ (yn' yt' yb' : Nat → Int32) (zs' zt' zg' zr' zm' : Int32), DM (addM d M m) yn' → MS (psh S d) yb' zs' → Q (nI (vn d + m)) yn' yt' yb' 0 zs' 0 zt' zg' zr' zm')
    (h1 : (¬ ∃ m M, tlO t n m M ∧ rngO M m) → ∀ (yt' : Nat → Int32) (zt' zg' zr' zm' : Int32), Q 0 yn yt' yb 1 zs zl zt' zg' zr' zm')
    (h2 : ∀ m M, tlO t n m M → rngO M m → ¬ vn d + m ≤ 14 → ∀ (yt' : Nat → Int32) (zt' zg' zr' zm' : Int32), Q 0 yn yt' yb 2 zs zl zt' zg' zr' zm') :
    wn_X6_read yn yt yb yx za zs zl zt zg zr zm Q := by
  have hn := ok.1
  have ref : (¬ ∃ m M, tlO t n m M ∧ rngO M m) → ∀ (yt' : Nat → Int32) (zt' zg' zr' zm' : Int32), wj_n_X6_read_19 yx Q yn yt' yb za zs zl zt' zg' zr' zm' := by
    intro hno yt' zt' zg' zr' zm'
    unfold wj_n_X6_read_19 wj_n_X6_read_45
    exact m_refusedN (by decide) ⟨fun hx => absurd hx (by decide), fun _ => h1 hno _ _ _ _ _⟩
  unfold wn_X6_read
  refine m_readAll hn hm ht hok (fun m M yt' zt' zr' zm' htl hy hr hzm => ⟨fun hx => absurd hx (by decide), fun _ => ?_⟩) (fun q yt' zr' zm' hf => ⟨fun _ => ref (fun ⟨m, M, g1, _⟩ => flO_tlO hf g1) _ _ _ _ _, fun hx => absurd rfl hx⟩)
  obtain ⟨hM, hm3, hm1⟩ := tlO_ok htl
  have h60 := ht.2.1
  rcases hr with ⟨rfl, hr2⟩ | ⟨rfl, hr2⟩
  · refine ⟨fun _ => ⟨zi44, ?_⟩, fun hx => absurd hx (by decide)⟩
    rw [z44, hm.2.2.2, hzm, nI_add, z_14, z_le (by omega) (by omega)]
    refine ⟨fun hle => ?_, fun hle => ?_⟩
    · unfold wj_n_X6_read_45
      rw [show min m (14 - vn d) = m by omega] at hy
      have hvn := addM_n d M m
      refine m_refused0 ⟨fun _ => m_save hn hS hm (fun yb1 zs1 hS1 => m_copyDay (by omega) hy (fun vv hv => ⟨zi44, ?_⟩)), fun hx => absurd rfl hx⟩
      rw [z44, hv.2.2.2, hvn]
      exact hq m M htl hr2 hle _ _ _ _ _ _ _ _ hv hS1
    · unfold wj_n_X6_read_45
      exact m_refusedN (by decide) ⟨fun hx => absurd hx (by decide), fun _ => h2 m M htl hr2 hle _ _ _ _ _⟩
  · refine ⟨fun hx => absurd rfl hx, fun _ => ref (fun ⟨m', M', g1, g2⟩ => ?_) _ _ _ _ _⟩
    obtain ⟨e1, e2⟩ := tlO_un htl g1
    subst e1 e2
    exact hr2 g2
end
